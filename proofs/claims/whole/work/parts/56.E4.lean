theorem w0_5 : Cond.selects "java/util/ArrayList" ⟨"java/util/ArrayList", "add", "(Ljava/lang/Object;[Ljava/lang/Object;I)V"⟩ ⟨"java/util/ArrayList", "add", "(Ljava/lang/Object;[Ljava/lang/Object;I)V"⟩ ∈ gW := tb_0 (List.mem_of_getElem? (i := 5) rfl) rfl
theorem w0_6 : Cond.selects "java/util/ArrayList" ⟨"java/util/ArrayList", "grow", "()[Ljava/lang/Object;"⟩ ⟨"java/util/ArrayList", "grow", "()[Ljava/lang/Object;"⟩ ∈ gW := tb_0 (List.mem_of_getElem? (i := 6) rfl) rfl
theorem w0_7 : Cond.selects "java/util/ArrayList" ⟨"java/util/ArrayList", "grow", "(I)[Ljava/lang/Object;"⟩ ⟨"java/util/ArrayList", "grow", "(I)[Ljava/lang/Object;"⟩ ∈ gW := tb_0 (List.mem_of_getElem? (i := 7) rfl) rfl
theorem w2_175 : Cond.methodLink "java/util/ArrayList" 131 ⟨"java/util/ArrayList", "add", "(Ljava/lang/Object;[Ljava/lang/Object;I)V"⟩ ∈ gW := tb_2 (List.mem_of_getElem? (i := 175) rfl) rfl
theorem w2_177 : Cond.instanceMethod ⟨"java/util/ArrayList", "add", "(Ljava/lang/Object;[Ljava/lang/Object;I)V"⟩ ∈ gW := tb_2 (List.mem_of_getElem? (i := 177) rfl) rfl
theorem w2_178 : Cond.code ⟨"java/util/ArrayList", "add", "(Ljava/lang/Object;[Ljava/lang/Object;I)V"⟩ prog_21_method_24_code 4 none ∈ gW := tb_2 (List.mem_of_getElem? (i := 178) rfl) rfl
theorem w2_179 : Cond.methodLink "java/util/ArrayList" 129 ⟨"java/util/ArrayList", "grow", "()[Ljava/lang/Object;"⟩ ∈ gW := tb_2 (List.mem_of_getElem? (i := 179) rfl) rfl
theorem w2_181 : Cond.instanceMethod ⟨"java/util/ArrayList", "grow", "()[Ljava/lang/Object;"⟩ ∈ gW := tb_2 (List.mem_of_getElem? (i := 181) rfl) rfl
theorem w2_182 : Cond.code ⟨"java/util/ArrayList", "grow", "()[Ljava/lang/Object;"⟩ prog_21_method_7_code 1 (some (.array (.object "java/lang/Object"))) ∈ gW := tb_2 (List.mem_of_getElem? (i := 182) rfl) rfl
theorem w2_183 : Cond.methodLink "java/util/ArrayList" 69 ⟨"java/util/ArrayList", "grow", "(I)[Ljava/lang/Object;"⟩ ∈ gW := tb_2 (List.mem_of_getElem? (i := 183) rfl) rfl
theorem w2_185 : Cond.instanceMethod ⟨"java/util/ArrayList", "grow", "(I)[Ljava/lang/Object;"⟩ ∈ gW := tb_2 (List.mem_of_getElem? (i := 185) rfl) rfl
theorem w2_186 : Cond.code ⟨"java/util/ArrayList", "grow", "(I)[Ljava/lang/Object;"⟩ prog_21_method_6_code 4 (some (.array (.object "java/lang/Object"))) ∈ gW := tb_2 (List.mem_of_getElem? (i := 186) rfl) rfl
theorem w2_221 : Cond.methodLink "java/util/ArrayList" 79 ⟨"java/lang/Math", "max", "(II)I"⟩ ∈ gW := tb_2 (List.mem_of_getElem? (i := 221) rfl) rfl
theorem w2_222 : Cond.classLink "java/util/ArrayList" 7 "java/lang/Object" ∈ gW := tb_2 (List.mem_of_getElem? (i := 222) rfl) rfl
def rmE_grow : Room := { frames := 1, cells := 1, slots := 10, locals := 60 }
theorem wdE_grow : yJx4a65c_grow_92f84.cls ≠ "java/lang/invoke/MethodHandle" ∧ yJx4a65c_grow_92f84.cls ≠ "java/lang/invoke/VarHandle" ∧ (parseMethodDescriptor yJx4a65c_grow_92f84.desc).map (fun d => d.parameters.length) = some 1 := by decide +kernel
set_option maxRecDepth 100000 in
set_option maxHeartbeats 8000000 in
theorem e_grow {l : Launch} {D : va_G} {cI cO cR : ClassId} {t0 L : Nat} {m z k : Int32} (hk : (if (10 : Int32) < k then k else 10) = 10) : ConE l D (tX cI cO cR) t0 yJx4a65c_grow_92f84 (wS yJx4a65c_grow_92f84 cJx4a65c_grow_92f84 4 (some (.array (.object "java/lang/Object")))) rmE_grow [.ref L, .int k] [(L, .inr (0, [.int m, .ref t0, .int z]))] (fun rv w => ∃ ed : Nat, rv = some (.ref ed) ∧ w = [(L, .inr (0, [.int m, .ref ed, .int z])), (ed, .inl (cO, 10, .inr (.inr (.inr (.inr (fun _ => none))))))]) := by
  refine ConE.of (by decide +kernel) (Nat.le_of_ble_eq_true rfl) (fun G C hR E hN => ?_)
  show J l rmE_grow D G (0, 0) [(L, .inr (0, [.int m, .ref t0, .int z]))] [(0, .ref L), (1, .int k)] [] 0
  refine j_aload_n C dJx4a65c_grow_92f84_0 rfl 0 rfl ?_
  refine j_get C iJx4a65c 0 rfl rfl 1 (by decide) w1_99 rfl rfl dJx4a65c_grow_92f84_1 ?_
  refine j_tlen C E dJx4a65c_grow_92f84_4 ?_
  refine j_istore_n C dJx4a65c_grow_92f84_5 rfl (by decide) rfl ?_
  refine j_iload_n C dJx4a65c_grow_92f84_6 rfl 0 rfl ?_
  refine j_if_gt (tgt := 20) C dJx4a65c_grow_92f84_7 (by decide) (fun q => absurd q (by decide)) (fun _ => ?_)
  refine j_aload_n C dJx4a65c_grow_92f84_10 rfl 1 rfl ?_
  refine j_get C iJx4a65c 0 rfl rfl 1 (by decide) w1_99 rfl rfl dJx4a65c_grow_92f84_11 ?_
  refine j_gets C E w1_97 dJx4a65c_grow_92f84_14 ?_
  refine j_acmp_eq (tgt := 45) C dJx4a65c_grow_92f84_17 (by decide) (fun _ => ?_) (fun q => absurd rfl q)
  refine j_aload_n C dJx4a65c_grow_92f84_45 rfl 1 rfl ?_
  refine j_bipush (v := 10) C dJx4a65c_grow_92f84_46 (by decide) ?_
  refine j_iload_n C dJx4a65c_grow_92f84_48 rfl 2 rfl ?_
  refine j_callS (cs' := (0, 0)) (As := [.int 10, .int k]) (rest := [.ref L]) C (qJ9_max_7cf53 (N := 0) (rr := 10) (by rw [mmax_eq, hk])) w2_90 w2_221 w2_89 w1_14 wd_J9_max_7cf53 ⟨by decide, by decide⟩ rfl (Nat.le_of_ble_eq_true rfl) dJx4a65c_grow_92f84_49 ⟨by decide, by decide⟩ rfl rfl ?_
  refine j_newq (N' := 10) C w2_222 1 rfl (by decide) rfl (by decide) (by decide) (by decide) dJx4a65c_grow_92f84_52 (fun ed => ?_)
  show J l rmE_grow D G (1, 10) [(L, .inr (0, [.int m, .ref t0, .int z])), (ed, .inl (cO, 10, .inr (.inr (.inr (.inr (fun _ => none))))))] [(2, .int 0), (0, .ref L), (1, .int k)] [.ref ed, .ref L] 55
  refine j_dup_x1 C dJx4a65c_grow_92f84_55 rfl rfl ?_
  refine j_put (ty := (.array (.object "java/lang/Object"))) C iJx4a65c tyJx4a65c tyJx4a65c_ok nmJx4a65c 0 rfl rfl 1 (by decide) w1_99 rfl rfl (by decide +kernel) rfl rfl (Nat.le_of_ble_eq_true rfl) rfl dJx4a65c_grow_92f84_56 ?_
  exact j_aretE C hR (Or.inr ⟨_, rfl⟩) ⟨ed, rfl, rfl⟩ dJx4a65c_grow_92f84_59
def rmE_grow0 : Room := { frames := 2, cells := 1, slots := 10, locals := 90 }
theorem wdE_grow0 : yJx4a65c_grow_d5877.cls ≠ "java/lang/invoke/MethodHandle" ∧ yJx4a65c_grow_d5877.cls ≠ "java/lang/invoke/VarHandle" ∧ (parseMethodDescriptor yJx4a65c_grow_d5877.desc).map (fun d => d.parameters.length) = some 0 := by decide +kernel
set_option maxRecDepth 100000 in
set_option maxHeartbeats 8000000 in
theorem e_grow0 {l : Launch} {D : va_G} {cI cO cR : ClassId} {t0 L : Nat} {m : Int32} : ConE l D (tX cI cO cR) t0 yJx4a65c_grow_d5877 (wS yJx4a65c_grow_d5877 cJx4a65c_grow_d5877 1 (some (.array (.object "java/lang/Object")))) rmE_grow0 [.ref L] [(L, .inr (0, [.int m, .ref t0, .int 0]))] (fun rv w => ∃ ed : Nat, rv = some (.ref ed) ∧ w = [(L, .inr (0, [.int m, .ref ed, .int 0])), (ed, .inl (cO, 10, .inr (.inr (.inr (.inr (fun _ => none))))))]) := by
  refine ConE.of (by decide +kernel) (Nat.le_of_ble_eq_true rfl) (fun G C hR E hN => ?_)
  show J l rmE_grow0 D G (0, 0) [(L, .inr (0, [.int m, .ref t0, .int 0]))] [(0, .ref L)] [] 0
  refine j_aload_n C dJx4a65c_grow_d5877_0 rfl 0 rfl ?_
  refine j_aload_n C dJx4a65c_grow_d5877_1 rfl 0 rfl ?_
  refine j_get C iJx4a65c 0 rfl rfl 2 (by decide) w1_100 rfl rfl dJx4a65c_grow_d5877_2 ?_
  refine j_iconst (v := 1) C dJx4a65c_grow_d5877_5 (by decide) ?_
  refine j_iadd C dJx4a65c_grow_d5877_6 ?_
  refine j_callVQ (cs' := (1, 10)) (As := [.int (0 + 1)]) (rest := []) (X := [(L, .inr (0, [.int m, .ref t0, .int 0]))]) (pl := []) (cx := [(L, .inr (0, [.int m, .ref t0, .int 0]))]) (wr := []) C E rfl (e_grow (by decide)) w2_186 w2_183 w2_185 w0_7 w1_6 wdE_grow ⟨by decide, by decide⟩ 0 rfl rfl [0] [] rfl rfl rfl (by decide) (by decide) rfl (Nat.le_of_ble_eq_true rfl) dJx4a65c_grow_d5877_7 ⟨by decide, by decide⟩ rfl rfl (fun rv w1 hP => ?_)
  obtain ⟨ed, rfl, rfl⟩ := hP
  exact j_aretE C hR (Or.inr ⟨_, rfl⟩) ⟨ed, rfl, rfl⟩ dJx4a65c_grow_d5877_10
def rmE_add3 : Room := { frames := 3, cells := 1, slots := 10, locals := 120 }
theorem wdE_add3 : yJx4a65c_add_72be8.cls ≠ "java/lang/invoke/MethodHandle" ∧ yJx4a65c_add_72be8.cls ≠ "java/lang/invoke/VarHandle" ∧ (parseMethodDescriptor yJx4a65c_add_72be8.desc).map (fun d => d.parameters.length) = some 3 := by decide +kernel
set_option maxRecDepth 100000 in
set_option maxHeartbeats 8000000 in
theorem e_add3a {l : Launch} {D : va_G} {cI cO cR : ClassId} {t0 L : Nat} {m : Int32} {x c : Nat} {fs : List Value} {Cn : String} {T : u_T} {N : Nat} (hc : vwCl[c]? = some (Cn, T, N)) (hca : Cond.castable Cn "java/lang/Object" ∈ nW) : ConE l D (tX cI cO cR) t0 yJx4a65c_add_72be8 (wS yJx4a65c_add_72be8 cJx4a65c_add_72be8 4 none) rmE_add3 [.ref L, .ref x, .ref t0, .int 0] [(L, .inr (0, [.int m, .ref t0, .int 0])), (x, .inr (c, fs))] (fun rv w => ∃ ed : Nat, rv = none ∧ w = [(x, .inr (c, fs)), (L, .inr (0, [.int m, .ref ed, .int (0 + 1)])), (ed, .inl (cO, 10, .inr (.inr (.inr (.inr (va_up (fun _ => none) 0 (some x)))))))]) := by
  refine ConE.of (by decide +kernel) (Nat.le_of_ble_eq_true rfl) (fun G C hR E hN => ?_)
  show J l rmE_add3 D G (0, 0) [(L, .inr (0, [.int m, .ref t0, .int 0])), (x, .inr (c, fs))] [(0, .ref L), (1, .ref x), (2, .ref t0), (3, .int 0)] [] 0
  refine j_iload_n C dJx4a65c_add_72be8_0 rfl 3 rfl ?_
  refine j_aload_n C dJx4a65c_add_72be8_1 rfl 2 rfl ?_
  refine j_tlen C E dJx4a65c_add_72be8_2 ?_
  refine j_icmp_ne (tgt := 11) C dJx4a65c_add_72be8_3 (by decide) (fun q => absurd rfl q) (fun _ => ?_)
  refine j_aload_n C dJx4a65c_add_72be8_6 rfl 0 rfl ?_
  refine j_callVQ (cs' := (1, 10)) (As := []) (rest := []) (X := [(L, .inr (0, [.int m, .ref t0, .int 0])), (x, .inr (c, fs))]) (pl := []) (cx := [(L, .inr (0, [.int m, .ref t0, .int 0]))]) (wr := [(x, .inr (c, fs))]) C E rfl e_grow0 w2_182 w2_179 w2_181 w0_6 w1_6 wdE_grow0 ⟨by decide, by decide⟩ 0 rfl rfl [0] [1] rfl rfl rfl (by decide) (by decide) rfl (Nat.le_of_ble_eq_true rfl) dJx4a65c_add_72be8_7 ⟨by decide, by decide⟩ rfl rfl (fun rv w1 hP => ?_)
  obtain ⟨ed, rfl, rfl⟩ := hP
  show J l rmE_add3 D G (1, 10) [(x, .inr (c, fs)), (L, .inr (0, [.int m, .ref ed, .int 0])), (ed, .inl (cO, 10, .inr (.inr (.inr (.inr (fun _ => none))))))] [(0, .ref L), (1, .ref x), (2, .ref t0), (3, .int 0)] [.ref ed] 10
  refine j_astore_n C dJx4a65c_add_72be8_10 rfl (by decide) rfl ?_
  refine j_aload_n C dJx4a65c_add_72be8_11 rfl 0 rfl ?_
  refine j_iload_n C dJx4a65c_add_72be8_12 rfl 3 rfl ?_
  refine j_aload_n C dJx4a65c_add_72be8_13 rfl 2 rfl ?_
  refine j_astO (ws' := [(x, .inr (c, fs)), (L, .inr (0, [.int m, .ref ed, .int 0])), (ed, .inl (cO, 10, .inr (.inr (.inr (.inr (va_up (fun _ => none) 0 (some x)))))))]) C 2 1 0 rfl rfl hca rfl hc (vp_in_iff.mpr (by decide)) rfl dJx4a65c_add_72be8_14 ?_
  refine j_aload_n C dJx4a65c_add_72be8_15 rfl 1 rfl ?_
  refine j_iload_n C dJx4a65c_add_72be8_16 rfl 3 rfl ?_
  refine j_iconst (v := 1) C dJx4a65c_add_72be8_17 (by decide) ?_
  refine j_iadd C dJx4a65c_add_72be8_18 ?_
  refine j_put (ty := .int) C iJx4a65c tyJx4a65c tyJx4a65c_ok nmJx4a65c 1 rfl rfl 2 (by decide) w1_100 rfl rfl (by decide +kernel) rfl rfl (Nat.le_of_ble_eq_true rfl) rfl dJx4a65c_add_72be8_19 ?_
  exact j_vretE C hR ⟨ed, rfl, rfl⟩ dJx4a65c_add_72be8_22
set_option maxRecDepth 100000 in
set_option maxHeartbeats 8000000 in
theorem e_add3b {l : Launch} {D : va_G} {cI cO cR : ClassId} {t0 L : Nat} {ed : Nat} {m z : Int32} {f : Nat → Option Nat} {x c : Nat} {fs : List Value} {Cn : String} {T : u_T} {N : Nat} (hc : vwCl[c]? = some (Cn, T, N)) (hca : Cond.castable Cn "java/lang/Object" ∈ nW) (hz : vp_in z 10) : ConE l D (tX cI cO cR) t0 yJx4a65c_add_72be8 (wS yJx4a65c_add_72be8 cJx4a65c_add_72be8 4 none) rmE_add3 [.ref L, .ref x, .ref ed, .int z] [(L, .inr (0, [.int m, .ref ed, .int z])), (ed, .inl (cO, 10, .inr (.inr (.inr (.inr f))))), (x, .inr (c, fs))] (fun rv w => rv = none ∧ w = [(L, .inr (0, [.int m, .ref ed, .int (z + 1)])), (ed, .inl (cO, 10, .inr (.inr (.inr (.inr (va_up f z.toNatClampNeg (some x))))))), (x, .inr (c, fs))]) := by
  refine ConE.of (by decide +kernel) (Nat.le_of_ble_eq_true rfl) (fun G C hR E hN => ?_)
  show J l rmE_add3 D G (0, 0) [(L, .inr (0, [.int m, .ref ed, .int z])), (ed, .inl (cO, 10, .inr (.inr (.inr (.inr f))))), (x, .inr (c, fs))] [(0, .ref L), (1, .ref x), (2, .ref ed), (3, .int z)] [] 0
  have hne : ¬ z = 10 := fun q => by
    rw [q] at hz
    exact absurd (vp_in_iff.mp hz).2 (by decide)
  refine j_iload_n C dJx4a65c_add_72be8_0 rfl 3 rfl ?_
  refine j_aload_n C dJx4a65c_add_72be8_1 rfl 2 rfl ?_
  refine j_alen (v := 10) C 1 1 rfl rfl rfl dJx4a65c_add_72be8_2 ?_
  refine j_icmp_ne (tgt := 11) C dJx4a65c_add_72be8_3 (by decide) (fun _ => ?_) (fun q => absurd q hne)
  refine j_aload_n C dJx4a65c_add_72be8_11 rfl 2 rfl ?_
  refine j_iload_n C dJx4a65c_add_72be8_12 rfl 3 rfl ?_
  refine j_aload_n C dJx4a65c_add_72be8_13 rfl 1 rfl ?_
  refine j_astO (ws' := [(L, .inr (0, [.int m, .ref ed, .int z])), (ed, .inl (cO, 10, .inr (.inr (.inr (.inr (va_up f z.toNatClampNeg (some x))))))), (x, .inr (c, fs))]) C 1 1 2 rfl rfl hca rfl hc hz rfl dJx4a65c_add_72be8_14 ?_
  refine j_aload_n C dJx4a65c_add_72be8_15 rfl 0 rfl ?_
  refine j_iload_n C dJx4a65c_add_72be8_16 rfl 3 rfl ?_
  refine j_iconst (v := 1) C dJx4a65c_add_72be8_17 (by decide) ?_
  refine j_iadd C dJx4a65c_add_72be8_18 ?_
  refine j_put (ty := .int) C iJx4a65c tyJx4a65c tyJx4a65c_ok nmJx4a65c 0 rfl rfl 2 (by decide) w1_100 rfl rfl (by decide +kernel) rfl rfl (Nat.le_of_ble_eq_true rfl) rfl dJx4a65c_add_72be8_19 ?_
  refine J.widen (cs' := (1, 10)) (by decide) (by decide) ?_
  exact j_vretE C hR ⟨rfl, rfl⟩ dJx4a65c_add_72be8_22
def rmE_add1 : Room := { frames := 4, cells := 1, slots := 10, locals := 150 }
theorem wdE_add1 : yJx4a65c_add_9ea2d.cls ≠ "java/lang/invoke/MethodHandle" ∧ yJx4a65c_add_9ea2d.cls ≠ "java/lang/invoke/VarHandle" ∧ (parseMethodDescriptor yJx4a65c_add_9ea2d.desc).map (fun d => d.parameters.length) = some 1 := by decide +kernel
set_option maxRecDepth 100000 in
set_option maxHeartbeats 8000000 in
theorem e_add1a {l : Launch} {D : va_G} {cI cO cR : ClassId} {t0 L : Nat} {m : Int32} {x c : Nat} {fs : List Value} {Cn : String} {T : u_T} {N : Nat} (hc : vwCl[c]? = some (Cn, T, N)) (hca : Cond.castable Cn "java/lang/Object" ∈ nW) : ConE l D (tX cI cO cR) t0 yJx4a65c_add_9ea2d (wS yJx4a65c_add_9ea2d cJx4a65c_add_9ea2d 2 (some .boolean)) rmE_add1 [.ref L, .ref x] [(L, .inr (0, [.int m, .ref t0, .int 0])), (x, .inr (c, fs))] (fun rv w => ∃ ed : Nat, rv = some (.int 1) ∧ w = [(x, .inr (c, fs)), (L, .inr (0, [.int (m + 1), .ref ed, .int (0 + 1)])), (ed, .inl (cO, 10, .inr (.inr (.inr (.inr (va_up (fun _ => none) 0 (some x)))))))]) := by
  refine ConE.of (by decide +kernel) (Nat.le_of_ble_eq_true rfl) (fun G C hR E hN => ?_)
  show J l rmE_add1 D G (0, 0) [(L, .inr (0, [.int m, .ref t0, .int 0])), (x, .inr (c, fs))] [(0, .ref L), (1, .ref x)] [] 0
  refine j_aload_n C dJx4a65c_add_9ea2d_0 rfl 0 rfl ?_
  refine j_dup C dJx4a65c_add_9ea2d_1 rfl ?_
  refine j_getS C iJx4a65c 0 rfl rfl 0 (by decide) w1_102 w1_103 rfl dJx4a65c_add_9ea2d_2 ?_
  refine j_iconst (v := 1) C dJx4a65c_add_9ea2d_5 (by decide) ?_
  refine j_iadd C dJx4a65c_add_9ea2d_6 ?_
  refine j_putS (ty := .int) C iJx4a65c tyJx4a65c tyJx4a65c_ok nmJx4a65c 0 rfl rfl 0 (by decide) w1_102 w1_103 rfl (by decide +kernel) rfl rfl (Nat.le_of_ble_eq_true rfl) rfl dJx4a65c_add_9ea2d_7 ?_
  show J l rmE_add1 D G (0, 0) [(L, .inr (0, [.int (m + 1), .ref t0, .int 0])), (x, .inr (c, fs))] [(0, .ref L), (1, .ref x)] [] 10
  refine j_aload_n C dJx4a65c_add_9ea2d_10 rfl 0 rfl ?_
  refine j_aload_n C dJx4a65c_add_9ea2d_11 rfl 1 rfl ?_
  refine j_aload_n C dJx4a65c_add_9ea2d_12 rfl 0 rfl ?_
  refine j_get C iJx4a65c 0 rfl rfl 1 (by decide) w1_99 rfl rfl dJx4a65c_add_9ea2d_13 ?_
  refine j_aload_n C dJx4a65c_add_9ea2d_16 rfl 0 rfl ?_
  refine j_get C iJx4a65c 0 rfl rfl 2 (by decide) w1_100 rfl rfl dJx4a65c_add_9ea2d_17 ?_
  refine j_callVQ (cs' := (1, 10)) (As := [.ref x, .ref t0, .int 0]) (rest := []) (X := [(L, .inr (0, [.int (m + 1), .ref t0, .int 0])), (x, .inr (c, fs))]) (pl := []) (cx := [(L, .inr (0, [.int (m + 1), .ref t0, .int 0])), (x, .inr (c, fs))]) (wr := []) C E rfl (e_add3a hc hca) w2_178 w2_175 w2_177 w0_5 w1_6 wdE_add3 ⟨by decide, by decide⟩ 0 rfl rfl [0, 1] [] rfl rfl rfl (by decide) (by decide) rfl (Nat.le_of_ble_eq_true rfl) dJx4a65c_add_9ea2d_20 ⟨by decide, by decide⟩ rfl rfl (fun rv w1 hP => ?_)
  obtain ⟨ed, rfl, rfl⟩ := hP
  refine j_iconst (v := 1) C dJx4a65c_add_9ea2d_23 (by decide) ?_
  exact j_zretE C hR (by decide) ⟨ed, rfl, rfl⟩ dJx4a65c_add_9ea2d_24
set_option maxRecDepth 100000 in
set_option maxHeartbeats 8000000 in
theorem e_add1b {l : Launch} {D : va_G} {cI cO cR : ClassId} {t0 L : Nat} {ed : Nat} {m z : Int32} {f : Nat → Option Nat} {x c : Nat} {fs : List Value} {Cn : String} {T : u_T} {N : Nat} (hc : vwCl[c]? = some (Cn, T, N)) (hca : Cond.castable Cn "java/lang/Object" ∈ nW) (hz : vp_in z 10) : ConE l D (tX cI cO cR) t0 yJx4a65c_add_9ea2d (wS yJx4a65c_add_9ea2d cJx4a65c_add_9ea2d 2 (some .boolean)) rmE_add1 [.ref L, .ref x] [(L, .inr (0, [.int m, .ref ed, .int z])), (ed, .inl (cO, 10, .inr (.inr (.inr (.inr f))))), (x, .inr (c, fs))] (fun rv w => rv = some (.int 1) ∧ w = [(L, .inr (0, [.int (m + 1), .ref ed, .int (z + 1)])), (ed, .inl (cO, 10, .inr (.inr (.inr (.inr (va_up f z.toNatClampNeg (some x))))))), (x, .inr (c, fs))]) := by
  refine ConE.of (by decide +kernel) (Nat.le_of_ble_eq_true rfl) (fun G C hR E hN => ?_)
  show J l rmE_add1 D G (0, 0) [(L, .inr (0, [.int m, .ref ed, .int z])), (ed, .inl (cO, 10, .inr (.inr (.inr (.inr f))))), (x, .inr (c, fs))] [(0, .ref L), (1, .ref x)] [] 0
  refine j_aload_n C dJx4a65c_add_9ea2d_0 rfl 0 rfl ?_
  refine j_dup C dJx4a65c_add_9ea2d_1 rfl ?_
  refine j_getS C iJx4a65c 0 rfl rfl 0 (by decide) w1_102 w1_103 rfl dJx4a65c_add_9ea2d_2 ?_
  refine j_iconst (v := 1) C dJx4a65c_add_9ea2d_5 (by decide) ?_
  refine j_iadd C dJx4a65c_add_9ea2d_6 ?_
  refine j_putS (ty := .int) C iJx4a65c tyJx4a65c tyJx4a65c_ok nmJx4a65c 0 rfl rfl 0 (by decide) w1_102 w1_103 rfl (by decide +kernel) rfl rfl (Nat.le_of_ble_eq_true rfl) rfl dJx4a65c_add_9ea2d_7 ?_
  show J l rmE_add1 D G (0, 0) [(L, .inr (0, [.int (m + 1), .ref ed, .int z])), (ed, .inl (cO, 10, .inr (.inr (.inr (.inr f))))), (x, .inr (c, fs))] [(0, .ref L), (1, .ref x)] [] 10
  refine j_aload_n C dJx4a65c_add_9ea2d_10 rfl 0 rfl ?_
  refine j_aload_n C dJx4a65c_add_9ea2d_11 rfl 1 rfl ?_
  refine j_aload_n C dJx4a65c_add_9ea2d_12 rfl 0 rfl ?_
  refine j_get C iJx4a65c 0 rfl rfl 1 (by decide) w1_99 rfl rfl dJx4a65c_add_9ea2d_13 ?_
  refine j_aload_n C dJx4a65c_add_9ea2d_16 rfl 0 rfl ?_
  refine j_get C iJx4a65c 0 rfl rfl 2 (by decide) w1_100 rfl rfl dJx4a65c_add_9ea2d_17 ?_
  refine j_callVQ (cs' := (1, 10)) (As := [.ref x, .ref ed, .int z]) (rest := []) (X := [(L, .inr (0, [.int (m + 1), .ref ed, .int z])), (ed, .inl (cO, 10, .inr (.inr (.inr (.inr f))))), (x, .inr (c, fs))]) (pl := []) (cx := [(L, .inr (0, [.int (m + 1), .ref ed, .int z])), (ed, .inl (cO, 10, .inr (.inr (.inr (.inr f))))), (x, .inr (c, fs))]) (wr := []) C E rfl (e_add3b hc hca hz) w2_178 w2_175 w2_177 w0_5 w1_6 wdE_add3 ⟨by decide, by decide⟩ 0 rfl rfl [0, 1, 2] [] rfl rfl rfl (by decide) (by decide) rfl (Nat.le_of_ble_eq_true rfl) dJx4a65c_add_9ea2d_20 ⟨by decide, by decide⟩ rfl rfl (fun rv w1 hP => ?_)
  obtain ⟨rfl, rfl⟩ := hP
  refine j_iconst (v := 1) C dJx4a65c_add_9ea2d_23 (by decide) ?_
  exact j_zretE C hR (by decide) ⟨rfl, rfl⟩ dJx4a65c_add_9ea2d_24
