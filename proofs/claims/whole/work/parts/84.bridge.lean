theorem KX_of_FX {u u' : USt} (h : FX u u') : KX u u' := ⟨fun k q => h.1 k (by omega), fun a q => h.2 a (by omega)⟩
theorem KM_of_FM {v v' : MSt} (h : FM v v') : KM v v' := ⟨fun k q => h.1 k (by omega), fun a q => h.2 a (by omega)⟩
theorem ReadR.n4 {u : USt} {v : MSt} {s : Int} {r : Int → Int} (h : ReadR u v s r) : ∃ e : Int, u.1 4 = I e ∧ 0 ≤ e ∧ e ≤ 3 := by
  obtain ⟨hr, h1, h2, hq, h3, h4, h5, h6, h7⟩ := h
  by_cases q : s ≤ 1
  · exact ⟨0, h5 q, by omega, by omega⟩
  · obtain ⟨a1, a2, a3, a4, a5⟩ := h6 (by omega)
    exact ⟨_, a3, a4⟩
/-- the whole page is read by both -/
theorem read_all {p : Nat} (hp : p ≤ 20) : ∀ (d f f' j : Nat) (u : USt) (v : MSt) (s : Int) (r : Int → Int), d < f → d < f' → d + j = p → ReadR u v s r → u.1 0 = I p → v.1 1 = I p → (∀ j, j < p → ∃ c : Int, u.2 2 j = I c ∧ v.2.1 0 j = I c ∧ 1 ≤ c ∧ c ≤ 126) → ∃ (i : Nat) (u' : USt) (v' : MSt), mX6_readBy_h6 NF f u (I j) = some (I i, u') ∧ mM_faultOf_h7 NF f' v (I j) = some (I i, v') ∧ FX u u' ∧ FM v v' ∧ i ≤ p ∧ (∃ e : Int, u'.1 4 = I e ∧ 0 ≤ e ∧ e ≤ 3) ∧ (∃ q : Int, u'.1 1 = I q ∧ 0 ≤ q ∧ q ≤ 11) ∧ (i = p → ∃ s' r', ReadR u' v' s' r') := by
  intro d
  induction d with
  | zero =>
    intro f f' j u v s r hf hf' hd hR hu hv hc
    obtain ⟨f, rfl⟩ : ∃ g, f = g + 1 := ⟨f - 1, by omega⟩
    obtain ⟨f', rfl⟩ : ∃ g, f' = g + 1 := ⟨f' - 1, by omega⟩
    have hj : j = p := by omega
    subst hj
    refine ⟨j, u, v, ?_, ?_, FX.refl u, FM.refl v, by omega, hR.n4, ⟨s, hR.2.1, hR.2.2.1⟩, fun _ => ⟨s, r, hR⟩⟩
    · show mX6_readBy_6 NF _ _ _ = _
      unfold mX6_readBy_6
      simp only [nm]
      rw [hu, if_pos (by rw [I_le (by omega) (by omega) (by omega) (by omega)]; omega)]
    · show mM_faultOf_7 NF _ _ _ = _
      unfold mM_faultOf_7
      rw [hv, if_pos (by rw [I_le (by omega) (by omega) (by omega) (by omega)]; omega)]
      rfl
  | succ d ih =>
    intro f f' j u v s r hf hf' hd hR hu hv hc
    obtain ⟨f, rfl⟩ : ∃ g, f = g + 1 := ⟨f - 1, by omega⟩
    obtain ⟨f', rfl⟩ : ∃ g, f' = g + 1 := ⟨f' - 1, by omega⟩
    obtain ⟨c, e1, e2, c1, c2⟩ := hc j (by omega)
    obtain ⟨z, u1, v1, t1, t2, t3, t4, t5⟩ := step_all hR c1 c2
    have X : mX6_readBy_h6 NF (f + 1) u (I j) = if ¬ z = 0 then mX6_readBy_h6 NF f u1 (I ((j + 1 : Nat) : Int)) else some (I j, u1) := by
      show mX6_readBy_6 NF _ _ _ = _
      unfold mX6_readBy_6
      simp only [nm]
      rw [hu, if_neg (by rw [I_le (by omega) (by omega) (by omega) (by omega)]; omega), rdX_2 (by omega) (by omega), Int.toNat_natCast, e1, t1, bp_some, show I (j : Int) + 1 = I ((j + 1 : Nat) : Int) from I_add j 1]
    have M : mM_faultOf_h7 NF (f' + 1) v (I j) = if z = 0 then some (I j, v1) else mM_faultOf_h7 NF f' v1 (I ((j + 1 : Nat) : Int)) := by
      show mM_faultOf_7 NF _ _ _ = _
      unfold mM_faultOf_7
      rw [hv, if_neg (by rw [I_le (by omega) (by omega) (by omega) (by omega)]; omega), rd_I (by omega) (by omega) (by omega), Int.toNat_natCast, e2, t2, bp_some, show I (j : Int) + 1 = I ((j + 1 : Nat) : Int) from I_add j 1]
      rfl
    rcases t5 with ⟨rfl, rfl⟩ | ⟨rfl, s', r', t6⟩
    · rw [if_neg (by decide)] at X
      rw [if_pos rfl] at M
      exact ⟨j, _, _, X, M, t3, t4, by omega, hR.n4, ⟨s, hR.2.1, hR.2.2.1⟩, fun q => by omega⟩
    · rw [if_pos (by decide)] at X
      rw [if_neg (by decide)] at M
      obtain ⟨i, u', v', k1, k2, k3, k4, k5⟩ := ih f f' (j + 1) u1 v1 s' r' (by omega) (by omega) (by omega) t6 ((t3.1 0 (.inl rfl)).trans hu) ((t4.1 1 (by decide)).trans hv) (by rw [t3.2 2 (by decide), t4.2 0 (by decide)]; exact hc)
      exact ⟨i, u', v', X.trans k1, M.trans k2, t3.trans k3, t4.trans k4, k5⟩
theorem read_page {u : USt} {v : MSt} {p : Nat} (hp : p ≤ 20) (hu : u.1 0 = I p) (hv : v.1 1 = I p) (hc : ∀ j, j < p → ∃ c : Int, u.2 2 j = I c ∧ v.2.1 0 j = I c ∧ 1 ≤ c ∧ c ≤ 126) : ∃ (i : Nat) (u' : USt) (v' : MSt), mX6_readBy NF u = some (I i, u') ∧ mM_faultOf NF v = some (I i, v') ∧ FX u u' ∧ FM v v' ∧ i ≤ p ∧ (∃ e : Int, u'.1 4 = I e ∧ 0 ≤ e ∧ e ≤ 3) ∧ (∃ q : Int, u'.1 1 = I q ∧ 0 ≤ q ∧ q ≤ 11) ∧ (i = p → ∃ s' r', ReadR u' v' s' r') := by
  have hN := NF_big
  have hR : ReadR (siX (siX (siX (siX u 1 0) 2 0) 4 0) 8 9) (siM v 2 0) 0 (fun z => (v.2.1 3 z.toNat).toInt) := by
    refine ⟨fun j hj => ?_, rfl, by omega, rfl, fun _ => ⟨rfl, rfl⟩, fun q => by omega, fun _ => rfl, fun q => by omega, fun q => by omega, fun q => by omega, fun q => by omega, fun q => by omega, fun q => by omega⟩
    show v.2.1 3 j = I (v.2.1 3 ((j : Int).toNat)).toInt
    rw [Int.toNat_natCast]
    exact I_of _
  obtain ⟨i, u', v', k1, k2, k3, k4, k5⟩ := read_all hp p NF NF 0 _ _ 0 _ (by omega) (by omega) rfl hR hu hv hc
  refine ⟨i, u', v', ?_, ?_, ?_, ?_, k5⟩
  · exact k1
  · exact k2
  · exact FX.trans ((((FX.refl u).si (by omega) (by omega)).si (by omega) (by omega)).si (by omega) (by omega) |>.si (by omega) (by omega)) k3
  · exact FM.trans ((FM.refl v).si) k4
theorem pu_fault : Pu_fault InvX := by
  intro u b v h
  have hh := h
  obtain ⟨n, rw, fr, se, hX, hM, hs, ⟨p, p1, p2, p3, p4⟩, hN, hG⟩ := h
  obtain ⟨i, u', v', k1, k2, k3, k4, -⟩ := read_page p1 p2 p3 p4
  refine ⟨I i, u', v', ?_, ?_, hh.keep (KX_of_FX k3) (KM_of_FM k4)⟩
  · unfold mX10_fault
    rw [k1]
    rfl
  · unfold mM_fault
    rw [k2]
    rfl
/-- the table with j numbers of a new row -/
def rwN (rw r : Int → Int) (n j : Int) : Int → Int := fun z => if 10 * n ≤ z ∧ z < 10 * n + j then r (z - 10 * n) else rw z
theorem m_br46 (N : Nat) {rw r : Int → Int} {n : Int} (hn : 0 ≤ n) (hn2 : n < 10) : ∀ (d f j : Nat) (v : MSt), d < f → d + j = 10 → RowR v r → v.1 4 = I n → RowsM v (rwN rw r n j) → ∃ v', KR v v' ∧ RowsM v' (rwN rw r n 10) ∧ mM_bridge_h46 N f v (I j) = some (I n, siM (siM v' 4 (I (n + 1))) 1 0) := by
  intro d
  induction d with
  | zero =>
    intro f j v hf hd hr h4 hR
    obtain ⟨f, rfl⟩ : ∃ g, f = g + 1 := ⟨f - 1, by omega⟩
    have hj : j = 10 := by omega
    subst hj
    refine ⟨v, ⟨rfl, fun _ _ => rfl⟩, hR, ?_⟩
    show mM_bridge_46 N _ _ _ = _
    unfold mM_bridge_46
    simp only [nm]
    rw [if_pos (by decide), h4, show I n + 1 = I (n + 1) from I_add n 1]
    show some (I (n + 1) - 1, _) = _
    rw [show I (n + 1) - 1 = I (n + 1 - 1) from I_sub (n + 1) 1, show n + 1 - 1 = n by omega]
  | succ d ih =>
    intro f j v hf hd hr h4 hR
    obtain ⟨f, rfl⟩ : ∃ g, f = g + 1 := ⟨f - 1, by omega⟩
    obtain ⟨v', k1, k2, k3⟩ := ih f (j + 1) (saM v 5 (10 * n + j).toNat (I (r j))) (by omega) (by omega) hr h4 (fun z z1 z2 => by
      show va_up v.2.1 5 (upd (v.2.1 5) (10 * n + j).toNat (I (r j))) 5 z.toNat = _
      rw [vu_eq]
      unfold rwN
      by_cases q : z = 10 * n + j
      · rw [if_pos (by omega), q, ud_eq]
        congr 2
        omega
      · rw [ud_ne (by omega), hR z z1 z2]
        unfold rwN
        by_cases q2 : 10 * n ≤ z ∧ z < 10 * n + j
        · rw [if_pos q2, if_pos (by omega)]
        · rw [if_neg q2, if_neg (by omega)])
    refine ⟨v', ⟨k1.1, fun a ha => (k1.2 a ha).trans (vu_ne ha)⟩, k2, ?_⟩
    show mM_bridge_46 N _ _ _ = _
    unfold mM_bridge_46
    simp only [nm]
    rw [if_neg (show ¬ 10 ≤ I (j : Int) by rw [show (10 : Int32) = I 10 from rfl, I_le (by omega) (by omega) (by omega) (by omega)]; omega), rd_I (by omega) (by omega) (by omega), Int.toNat_natCast, hr j (by omega), h4, show (10 : Int32) = I 10 from rfl, I_mul, I_add, wr_I (by omega) (by omega) (by omega), show I (j : Int) + 1 = I ((j + 1 : Nat) : Int) from I_add j 1]
    exact k3
theorem clsK_I {k : Int} (h : 0 ≤ k ∧ k ≤ 3) : clsK (I k) = clsI k := by
  rcases (show k = 0 ∨ k = 1 ∨ k = 2 ∨ k = 3 by omega) with rfl | rfl | rfl | rfl <;> rfl
theorem ReadR.whole {u : USt} {v : MSt} {s : Int} {r : Int → Int} (h : ReadR u v s r) (hs : 9 ≤ s) : Rv r ∧ ∀ bv : BV, bv.2.2.1 = clsK (u.1 2) → bv.2.2.2.1 = bI u → bv.2.2.2.2.1 = (u.1 4).toNatClampNeg → (∀ j, j < (u.1 4).toNatClampNeg → bv.2.2.2.2.2 j = u.2 4 j) → Bv bv r := by
  obtain ⟨hr, h1, h2, hq, h3, h4, h5, h6, h7, h8, h9, h10, h11⟩ := h
  obtain ⟨x1, x2, x3, x4⟩ := h4 (by omega)
  obtain ⟨a1, a2, a3, a4, a5⟩ := h6 (by omega)
  have h8 := h8 (by omega)
  have h9 := h9 (by omega)
  have h10 := h10 (by omega)
  have h11 := h11 (by omega)
  refine ⟨⟨x2, a2, by omega, fun j j1 j2 => (a5 j j1 j2).2, h9.2, h10.2, by omega, x4⟩, fun bv y1 y2 y3 y4 => ?_⟩
  have e4 : (u.1 4).toNatClampNeg = (r 2).toNat := by
    rw [a3, I_clamp (by omega) (by omega)]
  rw [e4] at y3 y4
  refine ⟨?_, ?_, ?_, ?_, ?_, ?_, ?_, fun j j1 j2 => ?_⟩
  · rw [y1, x1, clsK_I x2]
  · rw [y2]
    exact a1
  · rw [y2]
    exact h9.1
  · rw [y2]
    exact h10.1
  · rw [y2]
    exact x3
  · rw [y2]
    exact h11.1
  · rw [y3]
    omega
  · rw [y4 j.toNat (by omega)]
    exact (a5 j j1 j2).1
theorem rwN_new {rw r : Int → Int} {n f : Int} (h1 : 0 ≤ f) (h2 : f < 10) : rowk (rwN rw r n 10) n f = r f := by
  unfold rowk rwN
  rw [if_pos (by omega)]
  congr 1
  omega
theorem rwN_old {rw r : Int → Int} {n f k : Int} (hk : k < n) (h1 : 0 ≤ f) (h2 : f < 10) : rowk (rwN rw r n 10) k f = rowk rw k f := by
  unfold rowk rwN
  rw [if_neg (by omega)]
theorem Xst_add {u : USt} {b b' : BSt} {bv : BV} {rw r : Int → Int} {n fr : Int} (h : Xst u b rw n fr) (hn : n < 10) (hb : Bv bv r) (hr : Rv r) (ha : bAdd b bv b') {u' : USt} (h10 : u'.1 10 = I (n + 1)) (h19 : u'.1 19 = u.1 19) : Xst u' b' (rwN rw r n 10) (n + 1) fr := by
  obtain ⟨a1, a2, a3, a4, a5, a6, a7, a8⟩ := h
  have hg : Bv bv (rowk (rwN rw r n 10) n) ∧ Rv (rowk (rwN rw r n 10) n) := ⟨Bv_congr (fun f f1 f2 => rwN_new f1 f2) hb hr.2.2.1.2, Rv_congr (fun f f1 f2 => rwN_new f1 f2) hr⟩
  cases b with
  | none =>
    have h0 := a6 rfl
    subst h0
    obtain ⟨qe, rfl⟩ : ∃ qe, b' = some (qe, 1, fun _ => bv) := ha
    refine ⟨h10, by omega, by omega, h19.trans a4, a5, fun q => absurd q (by simp), fun x q => ?_, fun k k1 k2 => ?_⟩
    · cases q
      rfl
    · have : k = 0 := by omega
      subst this
      exact ⟨_, rfl, (show Int.toNat 0 < 1 by decide), hg.1, hg.2⟩
  | some x =>
    have hx := a7 x rfl
    have ha' : b' = some (x.1, x.2.1 + 1, va_up x.2.2 x.2.1 bv) := ha
    subst ha'
    refine ⟨h10, by omega, by omega, h19.trans a4, a5, fun q => absurd q (by simp), fun y q => ?_, fun k k1 k2 => ?_⟩
    · cases q
      show ((x.2.1 + 1 : Nat) : Int) = n + 1
      omega
    · by_cases q : k = n
      · subst q
        refine ⟨_, rfl, ?_, ?_, hg.2⟩
        · show k.toNat < x.2.1 + 1
          omega
        · show Bv (va_up x.2.2 x.2.1 bv k.toNat) _
          rw [show k.toNat = x.2.1 by omega, vu_eq]
          exact hg.1
      · obtain ⟨y, hy, hk, hb', hv⟩ := a8 k k1 (by omega)
        cases hy
        refine ⟨_, rfl, ?_, ?_, Rv_congr (fun f f1 f2 => rwN_old (by omega) f1 f2) hv⟩
        · show k.toNat < x.2.1 + 1
          omega
        · show Bv (va_up x.2.2 x.2.1 bv k.toNat) _
          rw [vu_ne (by omega)]
          exact Bv_congr (fun f f1 f2 => rwN_old (by omega) f1 f2) hb' hv.2.2.1.2
theorem pu_bridge : Pu_bridge InvX := by
  intro u b v h
  have hh := h
  have hN' := NF_big
  obtain ⟨n, rw, fr, se, hX, hM, hs, ⟨p, p1, p2, p3, p4⟩, hN, hG⟩ := h
  obtain ⟨i, u1, v1, k1, k2, k3, k4, k5, ⟨e, k6, k7⟩, ⟨q, k8, k9⟩, k10⟩ := read_page p1 p2 p3 p4
  have hI1 : InvX u1 b v1 := hh.keep (KX_of_FX k3) (KM_of_FM k4)
  have z0 : u1.1 0 = I p := (k3.1 0 (.inl rfl)).trans p2
  have z10 : u1.1 10 = I n := (k3.1 10 (by omega)).trans hX.1
  have w1 : v1.1 1 = I p := (k4.1 1 (by omega)).trans p3
  have w4 : v1.1 4 = I n := (k4.1 4 (by omega)).trans hM.2.2.2.1
  have hn0 := hX.2.1
  have hn10 := hX.2.2.1
  have eW : mX7_isWhole NF u1 = some (I (bo (q = 9 ∨ q = 11))) := by
    unfold mX7_isWhole mX7_isWhole_18 mX7_isWhole_23
    rw [k8]
    by_cases q9 : q = 9
    · rw [if_pos (by rw [q9]; rfl), bo_t (.inl q9)]
      rfl
    · rw [if_neg (show ¬ I q = 9 by rw [show (9 : Int32) = I 9 from rfl, I_eq (by omega) (by omega) (by omega) (by omega)]; exact q9)]
      by_cases q11 : q = 11
      · rw [if_neg (by rw [q11]; decide), bo_t (.inr q11)]
        rfl
      · rw [if_pos (show ¬ I q = 11 by rw [show (11 : Int32) = I 11 from rfl, I_eq (by omega) (by omega) (by omega) (by omega)]; exact q11), bo_f (by omega)]
        rfl
  refine ⟨I i, I p, I (bo (q = 9 ∨ q = 11)), I n, I p, I (n + 1), u1, siX (siX (siX u1 9 (u1.1 9 + 1)) 10 (I (n + 1))) 0 0, k1, ?_, eW, ?_, ?_, ?_, ?_, rfl, ?_⟩
  · exact congrArg some z0
  · exact congrArg some z10
  · rw [k6, I_toInt (by omega) (by omega)]
    exact k7
  · intro hlt
    rw [show (10 : Int32) = I 10 from rfl, I_lt (by omega) (by omega) (by omega) (by omega)] at hlt
    obtain ⟨-, -, -, -, -, hb0, hb1, -⟩ := hX
    cases b with
    | none =>
      have := hb0 rfl
      exact .inl ⟨rfl, by rw [z10, this]; rfl⟩
    | some x =>
      have := hb1 x rfl
      refine .inr ⟨x, rfl, ?_, by omega⟩
      rw [z10, I_toInt (by omega) (by omega)]
      exact this.symm
  · unfold mX6_empty
    simp only [nm]
    rw [z10, show I n + 1 = I (n + 1) from I_add n 1]
    show some (u1.1 0, _) = _
    rw [z0]
  · have lt : (I (i : Int) < I (p : Int)) = ((i : Int) < p) := I_lt (by omega) (by omega) (by omega) (by omega)
    have B : mM_bridge NF v = if I (i : Int) < I (p : Int) then some (-103, v1) else if v1.1 2 = 10 then mM_bridge_32 NF v1 else if v1.1 2 = 12 then mM_bridge_32 NF v1 else some (-103, v1) := by
      unfold mM_bridge
      rw [k2, bp_some]
      simp only [nm]
      rw [w1]
      rfl
    by_cases q1 : i < p
    · rw [if_pos (by rw [lt]; omega)] at B
      refine ⟨_, _, B, fun ret u' b' hc => ?_⟩
      rcases hc with ⟨-, rfl, rfl, rfl⟩ | ⟨g, -⟩ | ⟨g, -⟩
      · exact ⟨rfl, hI1⟩
      · rw [lt] at g; omega
      · rw [lt] at g; omega
    · rw [if_neg (by rw [lt]; omega)] at B
      obtain ⟨s, r, hR⟩ := k10 (by omega)
      have hs2 := hR.2.2.1
      have hsq : s = q := by
        have := hR.2.1
        rw [k8, I_eq (by omega) (by omega) (by omega) (by omega)] at this
        exact this.symm
      subst hsq
      have hst := hR.2.2.2.1
      by_cases q2 : s = 9 ∨ s = 11
      · have B2 : mM_bridge NF v = mM_bridge_32 NF v1 := by
          rw [B]
          rcases q2 with rfl | rfl
          · rw [if_pos (by rw [hst]; rfl)]
          · rw [if_neg (by rw [hst]; exact (show ¬ I 12 = (10 : Int32) by decide)), if_pos (by rw [hst]; rfl)]
        unfold mM_bridge_32 at B2
        rw [w4] at B2
        by_cases q3 : n = 10
        · rw [if_neg (by rw [q3]; decide)] at B2
          refine ⟨_, _, B2, fun ret u' b' hc => ?_⟩
          rcases hc with ⟨g, -⟩ | ⟨-, -, -, rfl, rfl, rfl⟩ | ⟨-, -, g, -⟩
          · rw [bo_t q2, lt] at g
            rcases g with g | g
            · omega
            · exact absurd g (by decide)
          · exact ⟨rfl, hI1⟩
          · rw [q3] at g
            exact absurd g (by decide)
        · rw [if_pos (show ¬ I n = 10 by rw [show (10 : Int32) = I 10 from rfl, I_eq (by omega) (by omega) (by omega) (by omega)]; exact q3)] at B2
          obtain ⟨n', rw', fr', se', hX1, hM1, hs1, hP1, hN1, hG1⟩ := hI1
          have en : n' = n := by
            have := hX1.1
            rw [z10, I_eq (by omega) (by omega) (by have := hX1.2.1; omega) (by have := hX1.2.2.1; omega)] at this
            exact this.symm
          subst en
          have hM1' := hM1
          obtain ⟨mr, mf, mf2, mn, mn1, mn2, t1, t2, t3, t4, t5, t6, t7⟩ := hM1
          obtain ⟨v', j1, j2, j3⟩ := m_br46 NF (rw := rw') (r := r) hn0 (by omega) 10 NF 0 v1 (by omega) rfl hR.1 w4 (fun z z1 z2 => by
            rw [mr z z1 z2]
            unfold rwN
            rw [if_neg (by omega)])
          have B3 : mM_bridge NF v = some (I n', siM (siM v' 4 (I (n' + 1))) 1 0) := B2.trans j3
          refine ⟨_, _, B3, fun ret u' b' hc => ?_⟩
          rcases hc with ⟨g, -⟩ | ⟨-, -, g, -⟩ | ⟨-, -, -, rfl, rfl, bv, y1, y2, y3, y4, y5⟩
          · rw [bo_t q2, lt] at g
            rcases g with g | g
            · omega
            · exact absurd g (by decide)
          · rw [show (10 : Int32) = I 10 from rfl, I_lt (by omega) (by omega) (by omega) (by omega)] at g
            omega
          · obtain ⟨hRv, hBv⟩ := hR.whole (by omega)
            have hw := hBv bv y1 y2 y3 y4
            have f1 := j1.1
            refine ⟨?_, n' + 1, rwN rw' r n' 10, fr', se', Xst_add hX1 (by omega) hw hRv y5 rfl rfl, ⟨j2, ?_, mf2, rfl, by omega, by omega, ?_, ?_, ?_, t4, t5, fun q => absurd q (by decide), fun k k1 k2 => ?_⟩, fun k k1 k2 => ?_, ⟨0, by omega, rfl, rfl, fun j q => by omega⟩, ?_, ?_⟩
            · show I (n' + 1) - 1 = I n'
              rw [show I (n' + 1) - 1 = I (n' + 1 - 1) from I_sub (n' + 1) 1]
              congr 1
              omega
            · show v'.1 6 = _
              rw [f1]
              exact mf
            · show v'.1 7 = _
              rw [f1]
              exact t1
            · show v'.1 8 = _
              rw [f1]
              exact t2
            · show v'.1 9 = _
              rw [f1]
              exact t3
            · by_cases q5 : k = n'
              · subst q5
                exact Rv_congr (fun f f1 f2 => rwN_new f1 f2) hRv
              · exact Rv_congr (fun f f1 f2 => rwN_old (by omega) f1 f2) (t7 k k1 (by omega))
            · by_cases q5 : k = n'
              · subst q5
                rw [rwN_new (by omega) (by omega)]
                have := hR.2.2.2.2.2.2.2.2.2.2.2.2 (by omega)
                exact this.2
              · rw [rwN_old (by omega) (by omega) (by omega)]
                exact hs1 k k1 (by omega)
            · obtain ⟨m, m1, m2, m3, m4, m5⟩ := hN1
              refine ⟨m, m1, m2, ?_, ?_, m5⟩
              · show v'.1 21 = _
                rw [f1]
                exact m3
              · show ∀ j, j < 24 → u1.2 7 j = v'.2.1 22 j
                rw [j1.2 22 (by decide)]
                exact m4
            · obtain ⟨g, g1, g2, g3, g4, g5⟩ := hG1
              refine ⟨g, g1, ?_, g3, by omega, fun q => ?_⟩
              · show v'.1 23 = _
                rw [f1]
                exact g2
              · obtain ⟨⟨a, a1, a2, a3⟩, ⟨m, m1, m2, m3, m4⟩, a4, a5⟩ := g5 q
                refine ⟨⟨a, a1, a2, ?_⟩, ⟨m, m1, m2, ?_, m4⟩, ?_, ?_⟩
                · show v'.1 24 = _
                  rw [f1]
                  exact a3
                · show v'.1 25 = _
                  rw [f1]
                  exact m3
                · show ∀ j, j < 24 → u1.2 11 j = v'.2.1 27 j
                  rw [j1.2 27 (by decide)]
                  exact a4
                · show ∀ j : Nat, (j : Int) < g → ∃ s, u1.2 9 j = I s ∧ v'.2.1 26 j = I s ∧ _
                  rw [j1.2 26 (by decide)]
                  exact a5
      · have B2 : mM_bridge NF v = some (-103, v1) := by
          rw [B, hst]
          have : qst s (r 2) ≠ 10 ∧ qst s (r 2) ≠ 12 ∧ 0 ≤ qst s (r 2) ∧ qst s (r 2) ≤ 12 := by
            unfold qst
            (repeat' split) <;> omega
          rw [if_neg (by rw [show (10 : Int32) = I 10 from rfl, I_eq (by omega) (by omega) (by omega) (by omega)]; omega), if_neg (by rw [show (12 : Int32) = I 12 from rfl, I_eq (by omega) (by omega) (by omega) (by omega)]; omega)]
        refine ⟨_, _, B2, fun ret u' b' hc => ?_⟩
        rcases hc with ⟨-, rfl, rfl, rfl⟩ | ⟨-, g, -⟩ | ⟨-, g, -⟩
        · exact ⟨rfl, hI1⟩
        · exact absurd (by rw [bo_f q2]; rfl) g
        · exact absurd (by rw [bo_f q2]; rfl) g
