theorem w1_22 : Cond.classLink "NineBridgesLaw" 7 "NineBridges" ∈ gW := tb_1 (List.mem_of_getElem? (i := 22) rfl) rfl
theorem w1_23 : Cond.instantiable "NineBridges" 10 ∈ gW := tb_1 (List.mem_of_getElem? (i := 23) rfl) rfl
theorem w1_24 : Cond.methodLink "NineBridgesLaw" 9 ⟨"NineBridges", "<init>", "()V"⟩ ∈ gW := tb_1 (List.mem_of_getElem? (i := 24) rfl) rfl
theorem w1_25 : Cond.instanceMethod ⟨"NineBridges", "<init>", "()V"⟩ ∈ gW := tb_1 (List.mem_of_getElem? (i := 25) rfl) rfl
theorem w1_26 : Cond.code ⟨"NineBridges", "<init>", "()V"⟩ prog_1_method_1_code 1 none ∈ gW := tb_1 (List.mem_of_getElem? (i := 26) rfl) rfl
theorem w4_191 : Cond.classLink "NineBridgesLaw" 10 "NineBridgesModel" ∈ gW := tb_4 (List.mem_of_getElem? (i := 191) rfl) rfl
theorem w4_192 : Cond.instantiable "NineBridgesModel" 29 ∈ gW := tb_4 (List.mem_of_getElem? (i := 192) rfl) rfl
theorem w4_193 : Cond.methodLink "NineBridgesLaw" 12 ⟨"NineBridgesModel", "<init>", "()V"⟩ ∈ gW := tb_4 (List.mem_of_getElem? (i := 193) rfl) rfl
theorem w4_194 : Cond.instanceMethod ⟨"NineBridgesModel", "<init>", "()V"⟩ ∈ gW := tb_4 (List.mem_of_getElem? (i := 194) rfl) rfl
theorem w4_195 : Cond.code ⟨"NineBridgesModel", "<init>", "()V"⟩ prog_13_method_1_code 1 none ∈ gW := tb_4 (List.mem_of_getElem? (i := 195) rfl) rfl
/-! THE CLAIM OUT OF ONE WALK OF THE LAW'S BODY. Your part is whole_start (and what it stands on); all else here is the same for every law, but numbers. -/
def R_law : String := "NineBridgesLaw"
def lw_P (b : Addr) (xs : List Int32) (args : Array Value) (s : State) : Prop := args = #[.ref b] ∧ s.IntsAt b xs ∧ xs.length ≤ 3584 ∧ (Jvm.Cond.and given_1 narrow_1).before args s = true
def lw_Q (_ : Array Value) (s : State) (o : Outcome) (t : State) : Prop := o = .returned (some (.int 1)) ∧ Framed s o t [] 600000 7302250
def lw_Z (below : List Frame) (a : Array Value) (s : State) : State → Prop := fun t => ∃ o, t.status = .running ∧ Ended t below o ∧ lw_Q a s o t
/-- the law's own end, with 1 on the stack, nothing written that was there before, its room as the claim has it -/
theorem lw_ret {p : Program} {l : Launch} {e : Env} {s : State} {m : MethodId} {below : List Frame} {meth : Method} {c : Code} {b : Nat} (hx : p.tables.exec = Jvm.exec) (hb : c.code = code) (hr : meth.sig.returnType = ret) (hlocks : meth.locks = false) {pc : Nat} {H : Heap} {ls : Array Slot} (hdg : decode code pc = .ok (.ireturn, 1)) : W p l e room_1 s m #[Value.ref b] below meth c H [] 600000 7302250 (lw_Z below #[Value.ref b] s) (F0 m pc ls [.int 1]) := by
  intro T hT X
  obtain ⟨fs, hret, hrun, hended, hW, hframe⟩ := X.leave (v := some (.int 1)) (hlocks := hlocks) (fun h => by rw [hr] at h; cases h)
  have hmeth' : T.vm.method? m = some meth := X.method'
  refine ⟨T.setFrames fs, ?_, .returned (some (.int 1)), hrun, hended, rfl, ⟨_, rfl⟩, hW, hframe⟩
  jvm_step X.here [X.here.top, hx, hb, hdg, hmeth', hr, ret, narrow_b1]
  (try refine ⟨rfl, ?_⟩); (try refine ⟨rfl, ?_⟩)
  first | (intro acts; rw [hret _ acts rfl rfl rfl]) | rw [hret _ _ rfl rfl rfl]
  exact Steps.refl _
/-- what holds at the law's entry: the machine, the code, the tables' words (any of lw_tbl by 'hts w (by decide +kernel)'), the script of L ints xs at the cell b, what the Statement gives of the start (any of its parts by flat_of_before) -/
def lw_At (p : Program) (s : State) (m : MethodId) (meth : Method) (c : Code) (b L : Nat) (xs : Nat → Int32) : Prop :=
  p.tables.exec = Jvm.exec ∧ c.code = code ∧ meth.sig.returnType = ret ∧ c.maxLocals = 4 ∧ s.vm.findClass R_law = some m.cls ∧ (∀ w ∈ lw_tbl, w.before #[Value.ref b] s = true) ∧ va_X b L xs s s.heap ∧ b < s.heap.size ∧ meth.locks = false ∧ (Jvm.Cond.and given_1 narrow_1).before #[Value.ref b] s = true
def u0X : USt := (fun k => match k with
  | 12 => -1
  | 17 => 1
  | _ => 0, fun _ _ => 0)
def v0M : MSt := (fun k => match k with
  | 7 => -1
  | 8 => -1
  | 23 => -1
  | _ => 0, fun _ _ => 0, 0)
theorem arrOf {s : State} {c : ClassId} {k : Class} {comp : ClassId} {ty : FieldType} (hk : s.vm.classes[c]? = some k) (h : k.kind = .array comp ty) : ArrOfT s c ty := fun _ _ => ⟨(fun q z => by cases z), k, hk, comp, h⟩
theorem g10 (r Q : Nat → Nat) (h : ∀ j, j < 10 → Q (26 + j) = r j) : (fun j => if j < 10 then some (Q (26 + j)) else none) = (fun i => if i < 10 then some (r i) else none) := by
  funext j
  by_cases hj : j < 10
  · rw [if_pos hj, if_pos hj, h j hj]
  · rw [if_neg hj, if_neg hj]
theorem g8 (r Q : Nat → Nat) (h : ∀ j, j < 8 → Q (36 + j) = r j) : (fun j => if j < 8 then some (Q (36 + j)) else none) = (fun i => if i < 8 then some (r i) else none) := by
  funext j
  by_cases hj : j < 8
  · rw [if_pos hj, if_pos hj, h j hj]
  · rw [if_neg hj, if_neg hj]
theorem law_jK {s : State} {b : Nat} (hts : ∀ w ∈ lw_tbl, w.before #[Value.ref b] s = true) (hgv : (Jvm.Cond.and given_1 narrow_1).before #[Value.ref b] s = true) : ∃ (D : va_G) (cI cO cR : ClassId), jK D (tX cI cO cR) s := by
  have htg : ∀ w ∈ gW, w.before #[Value.ref b] s = true := fun w h => hts w (gW_tbl w h)
  obtain ⟨c0, iS0, hKn0⟩ := u_known (C := RJx4a65c) (T := TJx4a65c) (N := 3) (n := 3) htg iJx4a65c (htg _ w1_86)
  obtain ⟨c1, iS1, hKn1⟩ := u_known (C := RX0) (T := TX0) (N := 6) (n := 6) htg iX0 (htg _ w2_162)
  obtain ⟨c2, iS2, hKn2⟩ := u_known (C := RX1) (T := TX1) (N := 5) (n := 5) htg iX1 (htg _ w1_182)
  obtain ⟨c3, iS3, hKn3⟩ := u_known (C := RX2) (T := TX2) (N := 6) (n := 6) htg iX2 (htg _ w2_149)
  obtain ⟨c4, iS4, hKn4⟩ := u_known (C := RX3) (T := TX3) (N := 6) (n := 6) htg iX3 (htg _ w2_80)
  obtain ⟨c5, iS5, hKn5⟩ := u_known (C := RX4) (T := TX4) (N := 4) (n := 4) htg iX4 (htg _ w1_125)
  obtain ⟨c6, iS6, hKn6⟩ := u_known (C := RX5) (T := TX5) (N := 2) (n := 2) htg iX5 (htg _ w1_112)
  obtain ⟨c7, iS7, hKn7⟩ := u_known (C := RX6) (T := TX6) (N := 2) (n := 2) htg iX6 (htg _ w1_31)
  obtain ⟨c8, iS8, hKn8⟩ := u_known (C := RX7) (T := TX7) (N := 9) (n := 9) htg iX7 (htg _ w1_45)
  obtain ⟨c9, iS9, hKn9⟩ := u_known (C := RX8) (T := TX8) (N := 6) (n := 6) htg iX8 (htg _ w2_136)
  obtain ⟨c10, iS10, hKn10⟩ := u_known (C := RX9) (T := TX9) (N := 9) (n := 9) htg iX9 (htg _ w1_146)
  obtain ⟨c11, iS11, hKn11⟩ := u_known (C := RX10) (T := TX10) (N := 10) (n := 10) htg iX10 (htg _ w1_23)
  obtain ⟨c12, iS12, hKn12⟩ := u_known (C := RX11) (T := TX11) (N := 29) (n := 29) htg iM (htg _ w4_192)
  obtain ⟨dC, dI, hKc⟩ : ∃ (dC : Nat → ClassId) (dI : Nat → Nat → Nat), ∀ (k : Nat) (q : vw_C), vwCl[k]? = some q → u_Kn s q.1 q.2.1 q.2.2 (dC k) (dI k) := by
    refine ⟨fun k => if k = 0 then c0 else if k = 1 then c1 else if k = 2 then c2 else if k = 3 then c3 else if k = 4 then c4 else if k = 5 then c5 else if k = 6 then c6 else if k = 7 then c7 else if k = 8 then c8 else if k = 9 then c9 else if k = 10 then c10 else if k = 11 then c11 else c12, fun k => if k = 0 then iS0 else if k = 1 then iS1 else if k = 2 then iS2 else if k = 3 then iS3 else if k = 4 then iS4 else if k = 5 then iS5 else if k = 6 then iS6 else if k = 7 then iS7 else if k = 8 then iS8 else if k = 9 then iS9 else if k = 10 then iS10 else if k = 11 then iS11 else iS12, ?_⟩
    intro k q hq
    match k, hq with
    | 0, hq => cases hq; exact hKn0
    | 1, hq => cases hq; exact hKn1
    | 2, hq => cases hq; exact hKn2
    | 3, hq => cases hq; exact hKn3
    | 4, hq => cases hq; exact hKn4
    | 5, hq => cases hq; exact hKn5
    | 6, hq => cases hq; exact hKn6
    | 7, hq => cases hq; exact hKn7
    | 8, hq => cases hq; exact hKn8
    | 9, hq => cases hq; exact hKn9
    | 10, hq => cases hq; exact hKn10
    | 11, hq => cases hq; exact hKn11
    | 12, hq => cases hq; exact hKn12
    | k + 13, hq => simp [vwCl] at hq
  obtain ⟨cI, kI, compI, hI1, hI2, hI3⟩ := Cond.arrayClass_spec (htg _ w1_43)
  obtain ⟨compO, cO, kO, hO1, hO2, hO3, hO4, hO5⟩ := Cond.arrayOver_spec (hts _ (List.mem_append_right _ (List.mem_append_right _ (List.mem_append_left _ (List.mem_of_getElem? (i := 219) rfl)))))
  obtain ⟨compR, cR, kR, hR1, hR2, hR3, hR4, hR5⟩ := Jvm.Stand.arrayOver_specB (hts _ (List.mem_append_right _ (List.mem_append_left _ (List.mem_of_getElem? (i := 152) rfl))))
  refine ⟨(dC, dI), cI, cO, cR, ⟨hKc, ?_⟩, ?_, ?_, ?_⟩
  · intro k q hk
    match k, hk with
    | 0, hk => cases hk; exact ⟨arrOf hI2 hI3, hI1⟩
    | 1, hk => cases hk; exact ⟨arrOf hO3 hO4, kO, compO, hO3, hO4, hO1, hO5⟩
    | 2, hk => cases hk; exact ⟨arrOf hR3 hR4, hR5⟩
    | k + 3, hk => simp at hk
  · intro w hw
    obtain ⟨h1, h2⟩ := List.mem_filter.mp hw
    exact va_Nw.of (nW_tab h2) (hts w h1)
  · intro q hq
    have hs := flat_of_before _ hgv
    simp only [ncW, List.mem_cons, List.not_mem_nil, or_false] at hq
    rcases hq with rfl | rfl | rfl | rfl | rfl | rfl | rfl | rfl <;> exact va_Nc.of (hs _ (by decide +kernel))
  · exact va_AO.of (hts _ (List.mem_append_right _ (List.mem_append_right _ (List.mem_append_left _ (List.mem_of_getElem? (i := 219) rfl)))))
theorem law_jE {s : State} {b : Nat} (hts : ∀ w ∈ lw_tbl, w.before #[Value.ref b] s = true) (hgv : (Jvm.Cond.and given_1 narrow_1).before #[Value.ref b] s = true) : ∃ t0 : Nat, jE t0 (fun q => s.heap.size ≤ q) s s.heap := by
  have hs := flat_of_before _ hgv
  have harr : (Cond.arrayOf (.static "java/util/ArrayList" "DEFAULTCAPACITY_EMPTY_ELEMENTDATA" "[Ljava/lang/Object;") (.object "java/lang/Object")).before #[Value.ref b] s = true := hs _ (by decide +kernel)
  have hlen : (Cond.eq (.length (.static "java/util/ArrayList" "DEFAULTCAPACITY_EMPTY_ELEMENTDATA" "[Ljava/lang/Object;")) (.int 0)).before #[Value.ref b] s = true := hs _ (by decide +kernel)
  have hA : ∀ a : Nat, a < s.heap.size → ¬ (fun q => s.heap.size ≤ q) a := fun a h h2 => absurd h (Nat.not_lt.mpr h2)
  have hl : (Term.length (.static "java/util/ArrayList" "DEFAULTCAPACITY_EMPTY_ELEMENTDATA" "[Ljava/lang/Object;")).eval #[Value.ref b] s none [] s = some (.int (Int32.ofNat 0)) := by
    cases hv : (Term.length (.static "java/util/ArrayList" "DEFAULTCAPACITY_EMPTY_ELEMENTDATA" "[Ljava/lang/Object;")).eval #[Value.ref b] s none [] s with
    | none => simp [Cond.before, Cond.holds, Cond.value, hv] at hlen
    | some w =>
      have h2 : (Term.int 0).eval #[Value.ref b] s none [] s = some (.int 0) := rfl
      simp only [Cond.before, Cond.holds, Cond.value, hv, h2] at hlen
      cases w with
      | int x =>
        simp at hlen
        rw [hlen]
        rfl
      | _ => simp at hlen
  obtain ⟨t0, ht, hT⟩ := va_Tof (f := fun _ => .null) (by decide) harr hl (fun j hj => absurd hj (Nat.not_lt_zero j)) hA
  exact ⟨t0, va_Zref (hts _ (List.mem_append_right _ (List.mem_append_left _ (List.mem_of_getElem? (i := 98) rfl)))) (hts _ (gW_tbl _ w1_6)) ht hA, hT, hts _ (List.mem_append_right _ (List.mem_append_left _ (List.mem_of_getElem? (i := 152) rfl)))⟩
set_option maxRecDepth 100000 in
set_option maxHeartbeats 16000000 in
theorem law_start {l : Launch} {D : va_G} {cI cO cR : ClassId} {t0 bs L : Nat} {xs : Nat → Int32} {G : Gx} {Inv : USt → BSt → MSt → Prop} (C : jC l room_1 D (tX cI cO cR) G cL_law 4 RL) (X : jXs bs L xs G) (E : jX0 t0 G) (K2 : jKs D [(cI, .int)] G) (hL : L ≤ 3584) (hp : PureOK Inv) (h0 : Inv u0X none v0M) (hend : ∀ (cs : Nat × Nat) (ws : va_W) (lv : List (Nat × Value)), cs.1 ≤ 600000 → cs.2 ≤ 7302250 → J l room_1 D G cs ws lv [] 1226) : J l room_1 D G (0, 0) [] [(0, .ref bs)] [] 0 := by
  refine j_new (ci := 11) (fs := [.null, .null, .null, .null, .null, .null, .null, .null, .null, .int 0]) C iX10 tyX10 tyX10_ok w1_22 w1_23 w1_1 rfl (fun j hj => by rcases (show j = 0 ∨ j = 1 ∨ j = 2 ∨ j = 3 ∨ j = 4 ∨ j = 5 ∨ j = 6 ∨ j = 7 ∨ j = 8 ∨ j = 9 by omega) with rfl | rfl | rfl | rfl | rfl | rfl | rfl | rfl | rfl | rfl <;> rfl) (by decide) (by decide) dL_law_0 (fun hx0 => ?_)
  show J l room_1 D G (1, 10) [(hx0, .inr (11, [.null, .null, .null, .null, .null, .null, .null, .null, .null, .int 0]))] [(0, .ref bs)] [.ref hx0] 3
  refine j_dup C dL_law_3 rfl ?_
  refine j_callI (cs' := (44, 16431)) (As := []) (rest := [.ref hx0]) (wc := [(hx0, .inr (11, [.null, .null, .null, .null, .null, .null, .null, .null, .null, .int 0]))]) (wr := []) none C E (e_X10_init (h0 := hx0)) w1_26 w1_24 w1_25 w1_1 rfl wdE_X10_init ⟨by decide, by decide⟩ [0] [] rfl rfl rfl (by decide) (by decide) rfl (Nat.le_of_ble_eq_true rfl) dL_law_4 ⟨by decide, by decide⟩ rfl rfl (fun rv w1 hP => ?_)
  obtain ⟨xa1, xa2, xa3, xa4, xa5, xa6, xa7, xa8, xa9, xa10, xa11, xa12, xa13, xr14, xa15, xa16, xa17, xr18, xa19, xa20, xa21, xa22, xa23, xa24, xa25, xa26, xa27, rfl, rfl⟩ := hP
  show J l room_1 D G (44, 16431) [(hx0, .inr (11, [.ref xa1, .ref xa3, .ref xa5, .ref xa6, .ref xa8, .ref xa12, .ref xa20, .ref xa26, .ref xa27, .int 0])), (xa1, .inr (7, [.ref xa2, .int 0])), (xa2, .inl (cI, 20, .inl (fun _ => 0))), (xa3, .inr (8, [.ref xa4, .int 0, .int 0, .int 0, .int 0, .int 0, .int 0, .int 0, .int 0])), (xa4, .inl (cI, 3, .inl (fun _ => 0))), (xa5, .inr (0, [.int 0, .ref t0, .int 0])), (xa6, .inr (6, [.ref xa7, .int 0])), (xa7, .inl (cI, 24, .inl (fun _ => 0))), (xa8, .inr (5, [.ref xa9, .ref xa10, .int (-1), .int 0])), (xa9, .inl (cI, 10, .inl (fun _ => 0))), (xa10, .inr (6, [.ref xa11, .int 0])), (xa11, .inl (cI, 24, .inl (fun _ => 0))), (xa12, .inr (10, [.ref xa13, .ref xa15, .ref xa16, .ref xa17, .ref xa19, .int 0, .int 0, .int 1, .int 0])), (xa13, .inl (cR, 10, .inr (.inr (.inr (.inr (fun i => if i < 10 then some (xr14 i) else none)))))), (xr14 0, .inl (cI, 1000, .inl (fun _ => 0))), (xr14 1, .inl (cI, 1000, .inl (fun _ => 0))), (xr14 2, .inl (cI, 1000, .inl (fun _ => 0))), (xr14 3, .inl (cI, 1000, .inl (fun _ => 0))), (xr14 4, .inl (cI, 1000, .inl (fun _ => 0))), (xr14 5, .inl (cI, 1000, .inl (fun _ => 0))), (xr14 6, .inl (cI, 1000, .inl (fun _ => 0))), (xr14 7, .inl (cI, 1000, .inl (fun _ => 0))), (xr14 8, .inl (cI, 1000, .inl (fun _ => 0))), (xr14 9, .inl (cI, 1000, .inl (fun _ => 0))), (xa15, .inl (cI, 10, .inl (fun _ => 0))), (xa16, .inl (cI, 10, .inl (fun _ => 0))), (xa17, .inl (cR, 8, .inr (.inr (.inr (.inr (fun i => if i < 8 then some (xr18 i) else none)))))), (xr18 0, .inl (cI, 460, .inl (fun _ => 0))), (xr18 1, .inl (cI, 460, .inl (fun _ => 0))), (xr18 2, .inl (cI, 460, .inl (fun _ => 0))), (xr18 3, .inl (cI, 460, .inl (fun _ => 0))), (xr18 4, .inl (cI, 460, .inl (fun _ => 0))), (xr18 5, .inl (cI, 460, .inl (fun _ => 0))), (xr18 6, .inl (cI, 460, .inl (fun _ => 0))), (xr18 7, .inl (cI, 460, .inl (fun _ => 0))), (xa19, .inl (cI, 8, .inl (fun _ => 0))), (xa20, .inr (2, [.ref xa21, .ref xa22, .ref xa23, .ref xa24, .ref xa25])), (xa21, .inl (cI, 610, .inl (fun _ => 0))), (xa22, .inl (cI, 488, .inl (fun _ => 0))), (xa23, .inl (cI, 488, .inl (fun _ => 0))), (xa24, .inl (cI, 488, .inl (fun _ => 0))), (xa25, .inl (cI, 488, .inl (fun _ => 0))), (xa26, .inl (cI, 8, .inl (fun _ => 0))), (xa27, .inl (cI, 8, .inl (fun _ => 0)))] [(0, .ref bs)] [.ref hx0] 7
  refine j_astore_n C dL_law_7 rfl (by decide) rfl ?_
  refine j_new (ci := 12) (fs := [.null, .int 0, .int 0, .null, .int 0, .null, .int 0, .int 0, .int 0, .int 0, .null, .int 0, .int 0, .null, .null, .null, .null, .null, .null, .int 0, .null, .int 0, .null, .int 0, .int 0, .int 0, .null, .null, .long 0]) C iM tyX11 tyX11_ok w4_191 w4_192 w1_11 rfl (fun j hj => by rcases (show j = 0 ∨ j = 1 ∨ j = 2 ∨ j = 3 ∨ j = 4 ∨ j = 5 ∨ j = 6 ∨ j = 7 ∨ j = 8 ∨ j = 9 ∨ j = 10 ∨ j = 11 ∨ j = 12 ∨ j = 13 ∨ j = 14 ∨ j = 15 ∨ j = 16 ∨ j = 17 ∨ j = 18 ∨ j = 19 ∨ j = 20 ∨ j = 21 ∨ j = 22 ∨ j = 23 ∨ j = 24 ∨ j = 25 ∨ j = 26 ∨ j = 27 ∨ j = 28 by omega) with rfl | rfl | rfl | rfl | rfl | rfl | rfl | rfl | rfl | rfl | rfl | rfl | rfl | rfl | rfl | rfl | rfl | rfl | rfl | rfl | rfl | rfl | rfl | rfl | rfl | rfl | rfl | rfl | rfl <;> rfl) (by decide) (by decide) dL_law_8 (fun hm0 => ?_)
  show J l room_1 D G (45, 16460) [(hx0, .inr (11, [.ref xa1, .ref xa3, .ref xa5, .ref xa6, .ref xa8, .ref xa12, .ref xa20, .ref xa26, .ref xa27, .int 0])), (xa1, .inr (7, [.ref xa2, .int 0])), (xa2, .inl (cI, 20, .inl (fun _ => 0))), (xa3, .inr (8, [.ref xa4, .int 0, .int 0, .int 0, .int 0, .int 0, .int 0, .int 0, .int 0])), (xa4, .inl (cI, 3, .inl (fun _ => 0))), (xa5, .inr (0, [.int 0, .ref t0, .int 0])), (xa6, .inr (6, [.ref xa7, .int 0])), (xa7, .inl (cI, 24, .inl (fun _ => 0))), (xa8, .inr (5, [.ref xa9, .ref xa10, .int (-1), .int 0])), (xa9, .inl (cI, 10, .inl (fun _ => 0))), (xa10, .inr (6, [.ref xa11, .int 0])), (xa11, .inl (cI, 24, .inl (fun _ => 0))), (xa12, .inr (10, [.ref xa13, .ref xa15, .ref xa16, .ref xa17, .ref xa19, .int 0, .int 0, .int 1, .int 0])), (xa13, .inl (cR, 10, .inr (.inr (.inr (.inr (fun i => if i < 10 then some (xr14 i) else none)))))), (xr14 0, .inl (cI, 1000, .inl (fun _ => 0))), (xr14 1, .inl (cI, 1000, .inl (fun _ => 0))), (xr14 2, .inl (cI, 1000, .inl (fun _ => 0))), (xr14 3, .inl (cI, 1000, .inl (fun _ => 0))), (xr14 4, .inl (cI, 1000, .inl (fun _ => 0))), (xr14 5, .inl (cI, 1000, .inl (fun _ => 0))), (xr14 6, .inl (cI, 1000, .inl (fun _ => 0))), (xr14 7, .inl (cI, 1000, .inl (fun _ => 0))), (xr14 8, .inl (cI, 1000, .inl (fun _ => 0))), (xr14 9, .inl (cI, 1000, .inl (fun _ => 0))), (xa15, .inl (cI, 10, .inl (fun _ => 0))), (xa16, .inl (cI, 10, .inl (fun _ => 0))), (xa17, .inl (cR, 8, .inr (.inr (.inr (.inr (fun i => if i < 8 then some (xr18 i) else none)))))), (xr18 0, .inl (cI, 460, .inl (fun _ => 0))), (xr18 1, .inl (cI, 460, .inl (fun _ => 0))), (xr18 2, .inl (cI, 460, .inl (fun _ => 0))), (xr18 3, .inl (cI, 460, .inl (fun _ => 0))), (xr18 4, .inl (cI, 460, .inl (fun _ => 0))), (xr18 5, .inl (cI, 460, .inl (fun _ => 0))), (xr18 6, .inl (cI, 460, .inl (fun _ => 0))), (xr18 7, .inl (cI, 460, .inl (fun _ => 0))), (xa19, .inl (cI, 8, .inl (fun _ => 0))), (xa20, .inr (2, [.ref xa21, .ref xa22, .ref xa23, .ref xa24, .ref xa25])), (xa21, .inl (cI, 610, .inl (fun _ => 0))), (xa22, .inl (cI, 488, .inl (fun _ => 0))), (xa23, .inl (cI, 488, .inl (fun _ => 0))), (xa24, .inl (cI, 488, .inl (fun _ => 0))), (xa25, .inl (cI, 488, .inl (fun _ => 0))), (xa26, .inl (cI, 8, .inl (fun _ => 0))), (xa27, .inl (cI, 8, .inl (fun _ => 0))), (hm0, .inr (12, [.null, .int 0, .int 0, .null, .int 0, .null, .int 0, .int 0, .int 0, .int 0, .null, .int 0, .int 0, .null, .null, .null, .null, .null, .null, .int 0, .null, .int 0, .null, .int 0, .int 0, .int 0, .null, .null, .long 0]))] [(1, .ref hx0), (0, .ref bs)] [.ref hm0] 11
  refine j_dup C dL_law_11 rfl ?_
  refine j_callI (cs' := (59, 19836)) (As := []) (rest := [.ref hm0]) (wc := [(hm0, .inr (12, [.null, .int 0, .int 0, .null, .int 0, .null, .int 0, .int 0, .int 0, .int 0, .null, .int 0, .int 0, .null, .null, .null, .null, .null, .null, .int 0, .null, .int 0, .null, .int 0, .int 0, .int 0, .null, .null, .long 0]))]) (wr := [(hx0, .inr (11, [.ref xa1, .ref xa3, .ref xa5, .ref xa6, .ref xa8, .ref xa12, .ref xa20, .ref xa26, .ref xa27, .int 0])), (xa1, .inr (7, [.ref xa2, .int 0])), (xa2, .inl (cI, 20, .inl (fun _ => 0))), (xa3, .inr (8, [.ref xa4, .int 0, .int 0, .int 0, .int 0, .int 0, .int 0, .int 0, .int 0])), (xa4, .inl (cI, 3, .inl (fun _ => 0))), (xa5, .inr (0, [.int 0, .ref t0, .int 0])), (xa6, .inr (6, [.ref xa7, .int 0])), (xa7, .inl (cI, 24, .inl (fun _ => 0))), (xa8, .inr (5, [.ref xa9, .ref xa10, .int (-1), .int 0])), (xa9, .inl (cI, 10, .inl (fun _ => 0))), (xa10, .inr (6, [.ref xa11, .int 0])), (xa11, .inl (cI, 24, .inl (fun _ => 0))), (xa12, .inr (10, [.ref xa13, .ref xa15, .ref xa16, .ref xa17, .ref xa19, .int 0, .int 0, .int 1, .int 0])), (xa13, .inl (cR, 10, .inr (.inr (.inr (.inr (fun i => if i < 10 then some (xr14 i) else none)))))), (xr14 0, .inl (cI, 1000, .inl (fun _ => 0))), (xr14 1, .inl (cI, 1000, .inl (fun _ => 0))), (xr14 2, .inl (cI, 1000, .inl (fun _ => 0))), (xr14 3, .inl (cI, 1000, .inl (fun _ => 0))), (xr14 4, .inl (cI, 1000, .inl (fun _ => 0))), (xr14 5, .inl (cI, 1000, .inl (fun _ => 0))), (xr14 6, .inl (cI, 1000, .inl (fun _ => 0))), (xr14 7, .inl (cI, 1000, .inl (fun _ => 0))), (xr14 8, .inl (cI, 1000, .inl (fun _ => 0))), (xr14 9, .inl (cI, 1000, .inl (fun _ => 0))), (xa15, .inl (cI, 10, .inl (fun _ => 0))), (xa16, .inl (cI, 10, .inl (fun _ => 0))), (xa17, .inl (cR, 8, .inr (.inr (.inr (.inr (fun i => if i < 8 then some (xr18 i) else none)))))), (xr18 0, .inl (cI, 460, .inl (fun _ => 0))), (xr18 1, .inl (cI, 460, .inl (fun _ => 0))), (xr18 2, .inl (cI, 460, .inl (fun _ => 0))), (xr18 3, .inl (cI, 460, .inl (fun _ => 0))), (xr18 4, .inl (cI, 460, .inl (fun _ => 0))), (xr18 5, .inl (cI, 460, .inl (fun _ => 0))), (xr18 6, .inl (cI, 460, .inl (fun _ => 0))), (xr18 7, .inl (cI, 460, .inl (fun _ => 0))), (xa19, .inl (cI, 8, .inl (fun _ => 0))), (xa20, .inr (2, [.ref xa21, .ref xa22, .ref xa23, .ref xa24, .ref xa25])), (xa21, .inl (cI, 610, .inl (fun _ => 0))), (xa22, .inl (cI, 488, .inl (fun _ => 0))), (xa23, .inl (cI, 488, .inl (fun _ => 0))), (xa24, .inl (cI, 488, .inl (fun _ => 0))), (xa25, .inl (cI, 488, .inl (fun _ => 0))), (xa26, .inl (cI, 8, .inl (fun _ => 0))), (xa27, .inl (cI, 8, .inl (fun _ => 0)))]) none C E (e_X11_init (h0 := hm0)) w4_195 w4_193 w4_194 w1_11 rfl wdE_X11_init ⟨by decide, by decide⟩ [44] [0, 1, 2, 3, 4, 5, 6, 7, 8, 9, 10, 11, 12, 13, 14, 15, 16, 17, 18, 19, 20, 21, 22, 23, 24, 25, 26, 27, 28, 29, 30, 31, 32, 33, 34, 35, 36, 37, 38, 39, 40, 41, 42, 43] rfl rfl rfl (by decide) (by decide) rfl (Nat.le_of_ble_eq_true rfl) dL_law_12 ⟨by decide, by decide⟩ rfl rfl (fun rv w1 hP => ?_)
  obtain ⟨ma1, ma2, ma3, ma4, ma5, ma6, ma7, ma8, ma9, ma10, ma11, ma12, ma13, ma14, rfl, rfl⟩ := hP
  refine j_astore_n C dL_law_15 rfl (by decide) rfl ?_
  refine j_iconst (v := 0) C dL_law_16 (by decide) ?_
  refine j_istore_n C dL_law_17 rfl (by decide) rfl ?_
  obtain ⟨Q, hQ⟩ : ∃ Q : Nat → Nat, Q = fun k => ([hx0, xa1, xa2, xa3, xa4, xa5, xa6, xa7, xa8, xa9, xa10, xa11, xa12, xa13, xa15, xa16, xa17, xa19, xa20, xa21, xa22, xa23, xa24, xa25, xa26, xa27, xr14 0, xr14 1, xr14 2, xr14 3, xr14 4, xr14 5, xr14 6, xr14 7, xr14 8, xr14 9, xr18 0, xr18 1, xr18 2, xr18 3, xr18 4, xr18 5, xr18 6, xr18 7] : List Nat).getD k 0 := ⟨_, rfl⟩
  have hw : wX cI cO cR Q t0 u0X none = [(hx0, .inr (11, [.ref xa1, .ref xa3, .ref xa5, .ref xa6, .ref xa8, .ref xa12, .ref xa20, .ref xa26, .ref xa27, .int 0])), (xa1, .inr (7, [.ref xa2, .int 0])), (xa2, .inl (cI, 20, .inl (fun _ => 0))), (xa3, .inr (8, [.ref xa4, .int 0, .int 0, .int 0, .int 0, .int 0, .int 0, .int 0, .int 0])), (xa4, .inl (cI, 3, .inl (fun _ => 0))), (xa5, .inr (0, [.int 0, .ref t0, .int 0])), (xa6, .inr (6, [.ref xa7, .int 0])), (xa7, .inl (cI, 24, .inl (fun _ => 0))), (xa8, .inr (5, [.ref xa9, .ref xa10, .int (-1), .int 0])), (xa9, .inl (cI, 10, .inl (fun _ => 0))), (xa10, .inr (6, [.ref xa11, .int 0])), (xa11, .inl (cI, 24, .inl (fun _ => 0))), (xa12, .inr (10, [.ref xa13, .ref xa15, .ref xa16, .ref xa17, .ref xa19, .int 0, .int 0, .int 1, .int 0])), (xa13, .inl (cR, 10, .inr (.inr (.inr (.inr (fun i => if i < 10 then some (xr14 i) else none)))))), (xa15, .inl (cI, 10, .inl (fun _ => 0))), (xa16, .inl (cI, 10, .inl (fun _ => 0))), (xa17, .inl (cR, 8, .inr (.inr (.inr (.inr (fun i => if i < 8 then some (xr18 i) else none)))))), (xa19, .inl (cI, 8, .inl (fun _ => 0))), (xa20, .inr (2, [.ref xa21, .ref xa22, .ref xa23, .ref xa24, .ref xa25])), (xa21, .inl (cI, 610, .inl (fun _ => 0))), (xa22, .inl (cI, 488, .inl (fun _ => 0))), (xa23, .inl (cI, 488, .inl (fun _ => 0))), (xa24, .inl (cI, 488, .inl (fun _ => 0))), (xa25, .inl (cI, 488, .inl (fun _ => 0))), (xa26, .inl (cI, 8, .inl (fun _ => 0))), (xa27, .inl (cI, 8, .inl (fun _ => 0))), (xr14 0, .inl (cI, 1000, .inl (fun _ => 0))), (xr14 1, .inl (cI, 1000, .inl (fun _ => 0))), (xr14 2, .inl (cI, 1000, .inl (fun _ => 0))), (xr14 3, .inl (cI, 1000, .inl (fun _ => 0))), (xr14 4, .inl (cI, 1000, .inl (fun _ => 0))), (xr14 5, .inl (cI, 1000, .inl (fun _ => 0))), (xr14 6, .inl (cI, 1000, .inl (fun _ => 0))), (xr14 7, .inl (cI, 1000, .inl (fun _ => 0))), (xr14 8, .inl (cI, 1000, .inl (fun _ => 0))), (xr14 9, .inl (cI, 1000, .inl (fun _ => 0))), (xr18 0, .inl (cI, 460, .inl (fun _ => 0))), (xr18 1, .inl (cI, 460, .inl (fun _ => 0))), (xr18 2, .inl (cI, 460, .inl (fun _ => 0))), (xr18 3, .inl (cI, 460, .inl (fun _ => 0))), (xr18 4, .inl (cI, 460, .inl (fun _ => 0))), (xr18 5, .inl (cI, 460, .inl (fun _ => 0))), (xr18 6, .inl (cI, 460, .inl (fun _ => 0))), (xr18 7, .inl (cI, 460, .inl (fun _ => 0)))] := by
    unfold wX fX
    rw [g10 xr14 Q (fun j hj => by rw [hQ]; rcases (show j = 0 ∨ j = 1 ∨ j = 2 ∨ j = 3 ∨ j = 4 ∨ j = 5 ∨ j = 6 ∨ j = 7 ∨ j = 8 ∨ j = 9 by omega) with rfl | rfl | rfl | rfl | rfl | rfl | rfl | rfl | rfl | rfl <;> rfl), g8 xr18 Q (fun j hj => by rw [hQ]; rcases (show j = 0 ∨ j = 1 ∨ j = 2 ∨ j = 3 ∨ j = 4 ∨ j = 5 ∨ j = 6 ∨ j = 7 by omega) with rfl | rfl | rfl | rfl | rfl | rfl | rfl | rfl <;> rfl)]
    rw [hQ]
    rfl
  have hl := law_loop (q := Q) (q2 := fun k => ([ma1, 0, 0, ma2, 0, ma3, 0, 0, 0, 0, ma4, 0, 0, ma5, ma6, ma7, ma8, ma9, ma10, 0, ma11, 0, ma12, 0, 0, 0, ma13, ma14, 0] : List Nat).getD k 0) (o := hm0) C X E K2 hL hp (fun cs ws x3 h1 h2 => hend cs ws _ h1 h2) 513 0 (59, 19836) u0X none v0M (by omega) (by omega) (by decide) (by decide) h0
  rw [hw] at hl
  have hq0 : Q 0 = hx0 := by rw [hQ]; rfl
  rw [hq0] at hl
  refine J.places (X := [(hx0, .inr (11, [.ref xa1, .ref xa3, .ref xa5, .ref xa6, .ref xa8, .ref xa12, .ref xa20, .ref xa26, .ref xa27, .int 0])), (xa1, .inr (7, [.ref xa2, .int 0])), (xa2, .inl (cI, 20, .inl (fun _ => 0))), (xa3, .inr (8, [.ref xa4, .int 0, .int 0, .int 0, .int 0, .int 0, .int 0, .int 0, .int 0])), (xa4, .inl (cI, 3, .inl (fun _ => 0))), (xa5, .inr (0, [.int 0, .ref t0, .int 0])), (xa6, .inr (6, [.ref xa7, .int 0])), (xa7, .inl (cI, 24, .inl (fun _ => 0))), (xa8, .inr (5, [.ref xa9, .ref xa10, .int (-1), .int 0])), (xa9, .inl (cI, 10, .inl (fun _ => 0))), (xa10, .inr (6, [.ref xa11, .int 0])), (xa11, .inl (cI, 24, .inl (fun _ => 0))), (xa12, .inr (10, [.ref xa13, .ref xa15, .ref xa16, .ref xa17, .ref xa19, .int 0, .int 0, .int 1, .int 0])), (xa13, .inl (cR, 10, .inr (.inr (.inr (.inr (fun i => if i < 10 then some (xr14 i) else none)))))), (xr14 0, .inl (cI, 1000, .inl (fun _ => 0))), (xr14 1, .inl (cI, 1000, .inl (fun _ => 0))), (xr14 2, .inl (cI, 1000, .inl (fun _ => 0))), (xr14 3, .inl (cI, 1000, .inl (fun _ => 0))), (xr14 4, .inl (cI, 1000, .inl (fun _ => 0))), (xr14 5, .inl (cI, 1000, .inl (fun _ => 0))), (xr14 6, .inl (cI, 1000, .inl (fun _ => 0))), (xr14 7, .inl (cI, 1000, .inl (fun _ => 0))), (xr14 8, .inl (cI, 1000, .inl (fun _ => 0))), (xr14 9, .inl (cI, 1000, .inl (fun _ => 0))), (xa15, .inl (cI, 10, .inl (fun _ => 0))), (xa16, .inl (cI, 10, .inl (fun _ => 0))), (xa17, .inl (cR, 8, .inr (.inr (.inr (.inr (fun i => if i < 8 then some (xr18 i) else none)))))), (xr18 0, .inl (cI, 460, .inl (fun _ => 0))), (xr18 1, .inl (cI, 460, .inl (fun _ => 0))), (xr18 2, .inl (cI, 460, .inl (fun _ => 0))), (xr18 3, .inl (cI, 460, .inl (fun _ => 0))), (xr18 4, .inl (cI, 460, .inl (fun _ => 0))), (xr18 5, .inl (cI, 460, .inl (fun _ => 0))), (xr18 6, .inl (cI, 460, .inl (fun _ => 0))), (xr18 7, .inl (cI, 460, .inl (fun _ => 0))), (xa19, .inl (cI, 8, .inl (fun _ => 0))), (xa20, .inr (2, [.ref xa21, .ref xa22, .ref xa23, .ref xa24, .ref xa25])), (xa21, .inl (cI, 610, .inl (fun _ => 0))), (xa22, .inl (cI, 488, .inl (fun _ => 0))), (xa23, .inl (cI, 488, .inl (fun _ => 0))), (xa24, .inl (cI, 488, .inl (fun _ => 0))), (xa25, .inl (cI, 488, .inl (fun _ => 0))), (xa26, .inl (cI, 8, .inl (fun _ => 0))), (xa27, .inl (cI, 8, .inl (fun _ => 0))), (hm0, .inr (12, [.ref ma1, .int 0, .int 0, .ref ma2, .int 0, .ref ma3, .int 0, .int (-1), .int (-1), .int 0, .ref ma4, .int 0, .int 0, .ref ma5, .ref ma6, .ref ma7, .ref ma8, .ref ma9, .ref ma10, .int 0, .ref ma11, .int 0, .ref ma12, .int (-1), .int 0, .int 0, .ref ma13, .ref ma14, .long 0])), (ma1, .inl (cI, 20, .inl (fun _ => 0))), (ma2, .inl (cI, 10, .inl (fun _ => 0))), (ma3, .inl (cI, 100, .inl (fun _ => 0))), (ma4, .inl (cI, 8, .inl (fun _ => 0))), (ma5, .inl (cI, 488, .inl (fun _ => 0))), (ma6, .inl (cI, 610, .inl (fun _ => 0))), (ma7, .inl (cI, 610, .inl (fun _ => 0))), (ma8, .inl (cI, 488, .inl (fun _ => 0))), (ma9, .inl (cI, 488, .inl (fun _ => 0))), (ma10, .inl (cI, 488, .inl (fun _ => 0))), (ma11, .inl (cI, 8, .inl (fun _ => 0))), (ma12, .inl (cI, 24, .inl (fun _ => 0))), (ma13, .inl (cI, 10, .inl (fun _ => 0))), (ma14, .inl (cI, 24, .inl (fun _ => 0)))]) (pl := []) (X2 := [(hx0, .inr (11, [.ref xa1, .ref xa3, .ref xa5, .ref xa6, .ref xa8, .ref xa12, .ref xa20, .ref xa26, .ref xa27, .int 0])), (xa1, .inr (7, [.ref xa2, .int 0])), (xa2, .inl (cI, 20, .inl (fun _ => 0))), (xa3, .inr (8, [.ref xa4, .int 0, .int 0, .int 0, .int 0, .int 0, .int 0, .int 0, .int 0])), (xa4, .inl (cI, 3, .inl (fun _ => 0))), (xa5, .inr (0, [.int 0, .ref t0, .int 0])), (xa6, .inr (6, [.ref xa7, .int 0])), (xa7, .inl (cI, 24, .inl (fun _ => 0))), (xa8, .inr (5, [.ref xa9, .ref xa10, .int (-1), .int 0])), (xa9, .inl (cI, 10, .inl (fun _ => 0))), (xa10, .inr (6, [.ref xa11, .int 0])), (xa11, .inl (cI, 24, .inl (fun _ => 0))), (xa12, .inr (10, [.ref xa13, .ref xa15, .ref xa16, .ref xa17, .ref xa19, .int 0, .int 0, .int 1, .int 0])), (xa13, .inl (cR, 10, .inr (.inr (.inr (.inr (fun i => if i < 10 then some (xr14 i) else none)))))), (xa15, .inl (cI, 10, .inl (fun _ => 0))), (xa16, .inl (cI, 10, .inl (fun _ => 0))), (xa17, .inl (cR, 8, .inr (.inr (.inr (.inr (fun i => if i < 8 then some (xr18 i) else none)))))), (xa19, .inl (cI, 8, .inl (fun _ => 0))), (xa20, .inr (2, [.ref xa21, .ref xa22, .ref xa23, .ref xa24, .ref xa25])), (xa21, .inl (cI, 610, .inl (fun _ => 0))), (xa22, .inl (cI, 488, .inl (fun _ => 0))), (xa23, .inl (cI, 488, .inl (fun _ => 0))), (xa24, .inl (cI, 488, .inl (fun _ => 0))), (xa25, .inl (cI, 488, .inl (fun _ => 0))), (xa26, .inl (cI, 8, .inl (fun _ => 0))), (xa27, .inl (cI, 8, .inl (fun _ => 0))), (xr14 0, .inl (cI, 1000, .inl (fun _ => 0))), (xr14 1, .inl (cI, 1000, .inl (fun _ => 0))), (xr14 2, .inl (cI, 1000, .inl (fun _ => 0))), (xr14 3, .inl (cI, 1000, .inl (fun _ => 0))), (xr14 4, .inl (cI, 1000, .inl (fun _ => 0))), (xr14 5, .inl (cI, 1000, .inl (fun _ => 0))), (xr14 6, .inl (cI, 1000, .inl (fun _ => 0))), (xr14 7, .inl (cI, 1000, .inl (fun _ => 0))), (xr14 8, .inl (cI, 1000, .inl (fun _ => 0))), (xr14 9, .inl (cI, 1000, .inl (fun _ => 0))), (xr18 0, .inl (cI, 460, .inl (fun _ => 0))), (xr18 1, .inl (cI, 460, .inl (fun _ => 0))), (xr18 2, .inl (cI, 460, .inl (fun _ => 0))), (xr18 3, .inl (cI, 460, .inl (fun _ => 0))), (xr18 4, .inl (cI, 460, .inl (fun _ => 0))), (xr18 5, .inl (cI, 460, .inl (fun _ => 0))), (xr18 6, .inl (cI, 460, .inl (fun _ => 0))), (xr18 7, .inl (cI, 460, .inl (fun _ => 0)))] ++ wM cI hm0 (fun k => ([ma1, 0, 0, ma2, 0, ma3, 0, 0, 0, 0, ma4, 0, 0, ma5, ma6, ma7, ma8, ma9, ma10, 0, ma11, 0, ma12, 0, 0, 0, ma13, ma14, 0] : List Nat).getD k 0) v0M) [0, 1, 2, 3, 4, 5, 6, 7, 8, 9, 10, 11, 12, 13, 24, 25, 26, 35, 36, 37, 38, 39, 40, 41, 42, 43, 14, 15, 16, 17, 18, 19, 20, 21, 22, 23, 27, 28, 29, 30, 31, 32, 33, 34, 44, 45, 46, 47, 48, 49, 50, 51, 52, 53, 54, 55, 56, 57, 58] rfl (by decide) ?_
  rw [List.append_nil]
  exact J.sub [3, 2, 1, 0] rfl hl
set_option maxHeartbeats 4000000 in
theorem whole_of {p : Program} {e : Env} {s : State} {m : MethodId} {below : List Frame} {meth : Method} {c : Code} (l : Launch) {b L : Nat} {xs : Nat → Int32} {Inv : USt → BSt → MSt → Prop} (hp : PureOK Inv) (h0 : Inv u0X none v0M) (hL : L ≤ 3584) (C0 : lw_At p s m meth c b L xs) : W p l e room_1 s m #[Value.ref b] below meth c s.heap [] 0 0 (lw_Z below #[Value.ref b] s) (entryFrame m ([Value.ref b] : List Value).toArray 4) := by
  obtain ⟨hx, hb, hr, hml, hown, hts, hX, hbl, hlocks, hgv⟩ := C0
  obtain ⟨D, cI, cO, cR, hK⟩ := law_jK hts hgv
  obtain ⟨t0, hE⟩ := law_jE hts hgv
  have C : jC l room_1 D (tX cI cO cR) (p, e, s, m, #[Value.ref b], below, meth, c, (fun q => s.heap.size ≤ q), 4, lw_Z below #[Value.ref b] s) cL_law 4 RL := ⟨hx, hb, hml, rfl, hown, fun w h => hts w (gW_tbl w h), hK, fun _ h => h, hlocks⟩
  have K2 : jK D [(cI, .int)] s := ⟨hK.1.sub [0] rfl, hK.2⟩
  have h := law_start (xs := xs) (L := L) (bs := b) (t0 := t0) C ⟨hX, hbl, Nat.not_le.mpr hbl⟩ hE K2 hL hp h0 (fun cs ws lv h1 h2 => ?_)
  · rw [lg_entry_eq]
    exact h s.heap [] _ (fun k q h => by simp at h) ⟨fun i j p q h => by simp at h, fun k q h => by simp at h⟩ va_S.rf (lv_entry [Value.ref b] (n := 4) (Nat.le_of_ble_eq_true rfl))
  · intro H locs ls g1 g2 g3 g4
    refine lv_iconst (v := 1) hx hb dL_law_1226 (by decide) ?_
    refine va_forget (fun q hq => g3.2.2 q hq) ?_
    refine W.widen (k := 600000) (n := 7302250) h1 h2 ?_
    exact lw_ret hx hb hr hlocks dL_law_1227
