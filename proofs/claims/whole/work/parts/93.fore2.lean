theorem saF_eq {u : USt} {i j : Nat} {x : Int32} {i' t' : Nat} : (saX u (36 + i) j x).2 (36 + i') t' = if i' = i then upd (u.2 (36 + i)) j x t' else u.2 (36 + i') t' := by
  show va_up u.2 (36 + i) (upd (u.2 (36 + i)) j x) (36 + i') t' = _
  by_cases q : i' = i
  · subst q
    rw [vu_eq, if_pos rfl]
  · rw [vu_ne (by omega), if_neg q]
def KF (u u' : USt) : Prop := u'.1 = u.1 ∧ ∀ a, (a < 36 ∨ 44 ≤ a) → u'.2 a = u.2 a
theorem KF.refl (u : USt) : KF u u := ⟨rfl, fun _ _ => rfl⟩
theorem KF.trans {u u' u'' : USt} (h : KF u u') (g : KF u' u'') : KF u u'' := ⟨g.1.trans h.1, fun a q => (g.2 a q).trans (h.2 a q)⟩
theorem KF.kx {u u' : USt} (h : KF u u') : KX u u' := ⟨fun k _ => by rw [h.1], fun a q => h.2 a (by omega)⟩
theorem KF_sa (u : USt) {i : Nat} (h : i < 8) (j : Nat) (x : Int32) : KF u (saX u (36 + i) j x) := ⟨rfl, fun a q => vu_ne (by omega)⟩
theorem KF.tab {u u' : USt} {s sp p n j : Int} {P : Int → Int} {L : Int → Int → Int} (h : KF u u') (hT : Tab u s sp p n j P L) (j2 : j ≤ 10) : Tab u' s sp p n j P L := hT.keep j2 h.1 (fun a q => h.2 a (by omega))
def FG (u : USt) (G : Int → Int → Int) (lo z : Int) : Prop := ∀ i t, 0 ≤ i → i < 8 → lo ≤ t → t ≤ z → u.2 (36 + i.toNat) t.toNat = I (G i t)
theorem FG.sa {u : USt} {G : Int → Int → Int} {lo z t : Int} (h : FG u G lo z) (t1 : 0 ≤ t) (t2 : t < lo) (i : Nat) (x : Int32) : FG (saX u (36 + i) t.toNat x) G lo z := by
  intro i' t' a1 a2 a3 a4
  rw [saF_eq]
  split
  · rename_i q
    rw [ud_ne (by omega), ← q]
    exact h i' t' a1 a2 a3 a4
  · exact h i' t' a1 a2 a3 a4
def Col (u : USt) (C : Int → Int) (t : Int) : Prop := ∀ i, 0 ≤ i → i < 8 → u.2 (36 + i.toNat) t.toNat = I (C i)
theorem Col.up {u : USt} {C : Int → Int} {t : Int} (h : Col u C t) {k : Int} (k1 : 0 ≤ k) (x : Int) : Col (saX u (36 + k.toNat) t.toNat (I x)) (fup C k x) t := by
  intro i i1 i2
  rw [saF_eq]
  by_cases q : i = k
  · subst q
    rw [if_pos rfl, ud_eq, fup_eq]
  · rw [if_neg (by omega), fup_ne q]
    exact h i i1 i2
def CP (G : Int → Int → Int) (p n y z : Int) (P : Int → Int) (L : Int → Int → Int) (t j : Int) (C : Int → Int) : Prop := C y = t ∧ (∀ k, 0 ≤ k → k < j → t + p ≤ z → L k t ≠ -1 → C (P k) ≤ G (L k t) (t + p) ∧ C (L k t) ≤ G (P k) (t + p)) ∧ ∀ i, 0 ≤ i → i < 8 → (t ≤ C i ∧ C i ≤ 2147483647) ∧ (t < z → C i ≤ G i (t + 1)) ∧ (C i = 2147483647 ∨ (i = y ∧ C i = t) ∨ (t < z ∧ C i = G i (t + 1)) ∨ ∃ k, 0 ≤ k ∧ k < n ∧ t + p ≤ z ∧ L k t ≠ -1 ∧ ((P k = i ∧ C i = G (L k t) (t + p)) ∨ (L k t = i ∧ C i = G (P k) (t + p))))
def mn (a b : Int) : Int := if b < a then b else a
theorem CP_step {G : Int → Int → Int} {p n y z t j : Int} {P : Int → Int} {L : Int → Int → Int} {C : Int → Int} (hG : GP G p n y z P L (t + 1)) (hnet : Net n P L) (h : CP G p n y z P L t j C) (t1 : 0 ≤ t) (j1 : 0 ≤ j) (j2 : j < n) (p1 : 1 ≤ p) (hp : t + p ≤ z) (hL : L j t ≠ -1) : CP G p n y z P L t (j + 1) (fup (fup C (P j) (mn (C (P j)) (G (L j t) (t + p)))) (L j t) (mn (C (L j t)) (G (P j) (t + p)))) := by
  have hn := hnet j j1 j2
  have hl := hn.2 t t1
  have ga := ((hG (t + p) (by omega) (by omega)).2.2 (P j) (by omega) (by omega)).1
  have gb := ((hG (t + p) (by omega) (by omega)).2.2 (L j t) (by omega) (by omega)).1
  obtain ⟨h1, h2, h3⟩ := h
  have key : ∀ i, fup (fup C (P j) (mn (C (P j)) (G (L j t) (t + p)))) (L j t) (mn (C (L j t)) (G (P j) (t + p))) i = C i ∨ (fup (fup C (P j) (mn (C (P j)) (G (L j t) (t + p)))) (L j t) (mn (C (L j t)) (G (P j) (t + p))) i < C i ∧ ((P j = i ∧ fup (fup C (P j) (mn (C (P j)) (G (L j t) (t + p)))) (L j t) (mn (C (L j t)) (G (P j) (t + p))) i = G (L j t) (t + p)) ∨ (L j t = i ∧ fup (fup C (P j) (mn (C (P j)) (G (L j t) (t + p)))) (L j t) (mn (C (L j t)) (G (P j) (t + p))) i = G (P j) (t + p)))) := by
    intro i
    by_cases q : i = L j t
    · subst q
      rw [fup_eq]
      unfold mn
      split
      · exact .inr ⟨by assumption, .inr ⟨rfl, rfl⟩⟩
      · exact .inl rfl
    · rw [fup_ne q]
      by_cases q2 : i = P j
      · subst q2
        rw [fup_eq]
        unfold mn
        split
        · exact .inr ⟨by assumption, .inl ⟨rfl, rfl⟩⟩
        · exact .inl rfl
      · rw [fup_ne q2]
        exact .inl rfl
  have ke : ∀ i, fup (fup C (P j) (mn (C (P j)) (G (L j t) (t + p)))) (L j t) (mn (C (L j t)) (G (P j) (t + p))) i ≤ C i := fun i => by
    have := key i
    omega
  have kL : fup (fup C (P j) (mn (C (P j)) (G (L j t) (t + p)))) (L j t) (mn (C (L j t)) (G (P j) (t + p))) (L j t) ≤ G (P j) (t + p) := by
    rw [fup_eq]
    unfold mn
    split <;> omega
  have kP : fup (fup C (P j) (mn (C (P j)) (G (L j t) (t + p)))) (L j t) (mn (C (L j t)) (G (P j) (t + p))) (P j) ≤ G (L j t) (t + p) := by
    rw [fup_ne (by omega), fup_eq]
    unfold mn
    split <;> omega
  generalize fup (fup C (P j) (mn (C (P j)) (G (L j t) (t + p)))) (L j t) (mn (C (L j t)) (G (P j) (t + p))) = D at *
  refine ⟨?_, fun k k1 k2 k3 k4 => ?_, fun i i1 i2 => ?_⟩
  · have := key y
    omega
  · by_cases q : k = j
    · subst q
      exact ⟨kP, kL⟩
    · have a := h2 k k1 (by omega) k3 k4
      have b := ke (P k)
      have c := ke (L k t)
      omega
  · obtain ⟨a, b, c⟩ := h3 i i1 i2
    have e := ke i
    rcases key i with q | ⟨q, q2⟩
    · rw [q]
      exact ⟨a, b, c⟩
    · refine ⟨by omega, fun g => ?_, .inr (.inr (.inr ⟨j, j1, j2, hp, hL, q2⟩))⟩
      have := b g
      omega
theorem CP_skip {G : Int → Int → Int} {p n y z t j : Int} {P : Int → Int} {L : Int → Int → Int} {C : Int → Int} (h : CP G p n y z P L t j C) (hL : L j t = -1 ∨ z < t + p) : CP G p n y z P L t (j + 1) C := by
  obtain ⟨h1, h2, h3⟩ := h
  refine ⟨h1, fun k k1 k2 k3 k4 => ?_, h3⟩
  by_cases q : k = j
  · subst q
    omega
  · exact h2 k k1 (by omega) k3 k4
theorem x_fo96 (N : Nat) {sp p n y z t : Int} {P : Int → Int} {L : Int → Int → Int} {G : Int → Int → Int} (hG : GP G p n y z P L (t + 1)) (hnet : Net n P L) (k21 : USt → Int32 → Int32 → Int32 → Option USt) (n2 : n ≤ 10) (sp1 : 0 ≤ sp) (sp2 : sp ≤ 999) (hz : z ≤ sp) (hz2 : z ≤ 459) (p1 : 1 ≤ p) (p2 : p ≤ 9) (t1 : 0 ≤ t) (t2 : t + p ≤ z) (y1 : 0 ≤ y) (y2 : y < 8) : ∀ (d f : Nat) (j : Int) (u : USt) (C : Int → Int), d < f → (d : Int) = n - j → 0 ≤ j → Tab u 0 sp p n n P L → FG u G (t + 1) z → Col u C t → CP G p n y z P L t j C → ∃ (u' : USt) (C' : Int → Int), KF u u' ∧ FG u' G (t + 1) z ∧ Col u' C' t ∧ CP G p n y z P L t n C' ∧ mX9_foresee_h96 N k21 f u (I y) (I z) (I t) (I j) = k21 u' (I y) (I z) (I (t - 1)) := by
  intro d
  induction d with
  | zero =>
    intro f j u C hf hd hj hT hF hC hP
    obtain ⟨f, rfl⟩ : ∃ g, f = g + 1 := ⟨f - 1, by omega⟩
    have ej : j = n := by omega
    subst ej
    refine ⟨u, C, KF.refl u, hF, hC, hP, ?_⟩
    show mX9_foresee_96 N _ _ _ _ _ _ _ = _
    unfold mX9_foresee_96 mX9_foresee_192
    simp only [nm]
    rw [hT.2.2.2.1, if_pos (by rw [I_le (by omega) (by omega) (by omega) (by omega)]; omega), show (-1 : Int32) = I (-1) from rfl, I_add, show t + -1 = t - 1 by omega]
  | succ d ih =>
    intro f j u C hf hd hj hT hF hC hP
    obtain ⟨f, rfl⟩ : ∃ g, f = g + 1 := ⟨f - 1, by omega⟩
    have hnj := hnet j hj (by omega)
    have hL := hnj.2 t t1
    have hrow := ((hT.2.2.2.2 j hj (by omega)).1 t t1 (by omega)).2
    rw [Int.zero_add] at hrow
    show ∃ (u' : USt) (C' : Int → Int), _ ∧ _ ∧ _ ∧ _ ∧ mX9_foresee_96 N _ _ _ _ _ _ _ = _
    unfold mX9_foresee_96 mX9_foresee_186
    simp only [nm]
    rw [x_landing N hT hj (by omega) n2 (by omega) (by omega) sp1 sp2 p1 p2, if_pos (show 0 ≤ t ∧ t + p ≤ sp from ⟨t1, by omega⟩), Option.bind_some, hT.2.2.2.1, hT.2.2.1, Int.zero_add, if_neg (by rw [I_le (by omega) (by omega) (by omega) (by omega)]; omega)]
    by_cases q : L j t = -1
    · rw [q, if_neg (by decide), show I j + 1 = I (j + 1) from I_add j 1]
      exact ih f (j + 1) u C (by omega) (by omega) (by omega) hT hF hC (CP_skip hP (.inl q))
    · obtain ⟨r14, -, -⟩ := hrow q
      rw [if_pos (by rw [show (-1 : Int32) = I (-1) from rfl, I_eq (by omega) (by omega) (by omega) (by omega)]; exact q), rdX_14 hj (by omega), r14, wr_I hnj.1.1 (by omega) (by omega), wr_I (by omega) (by omega) (by omega), I_add]
      have c1 := hC (P j) (by omega) (by omega)
      have c2 := hC (L j t) (by omega) (by omega)
      have f1 := hF (P j) (t + p) (by omega) (by omega) (by omega) (by omega)
      have f2 := hF (L j t) (t + p) (by omega) (by omega) (by omega) (by omega)
      have b1 := (hP.2.2 (P j) (by omega) (by omega)).1
      have b2 := (hP.2.2 (L j t) (by omega) (by omega)).1
      have ga := ((hG (t + p) (by omega) (by omega)).2.2 (P j) (by omega) (by omega)).1
      have gb := ((hG (t + p) (by omega) (by omega)).2.2 (L j t) (by omega) (by omega)).1
      have emn : ∀ a b : Int, -2147483648 ≤ a → a < 2147483648 → -2147483648 ≤ b → b < 2147483648 → (if I b < I a then I b else I a) = I (mn a b) := by
        intro a b h1 h2 h3 h4
        unfold mn
        by_cases q : b < a
        · rw [if_pos q, if_pos (by rw [I_lt h3 h4 h1 h2]; exact q)]
        · rw [if_neg q, if_neg (by rw [I_lt h3 h4 h1 h2]; exact q)]
      have k1 : (P j).toNat < 8 := by omega
      have k2 : (L j t).toNat < 8 := by omega
      rw [rdX_F k1 t1 (by omega), c1, rdX_F k2 (by omega) (by omega), f2, mmin_eq, Option.bind_some, emn _ _ (by omega) (by omega) (by omega) (by omega), wrX_F k1 t1 (by omega)]
      have hF' := hF.sa t1 (by omega) (P j).toNat (I (mn (C (P j)) (G (L j t) (t + p))))
      have hC' := hC.up (k := P j) (by omega) (mn (C (P j)) (G (L j t) (t + p)))
      have hK' := KF_sa u k1 t.toNat (I (mn (C (P j)) (G (L j t) (t + p))))
      have hT' := hK'.tab hT n2
      generalize hu1 : saX u (36 + (P j).toNat) t.toNat (I (mn (C (P j)) (G (L j t) (t + p)))) = u1 at *
      have c3 := hC' (L j t) (by omega) (by omega)
      rw [fup_ne (by omega)] at c3
      have f3 := hF' (P j) (t + p) (by omega) (by omega) (by omega) (by omega)
      rw [rdX_F k2 t1 (by omega), c3, rdX_F k1 (by omega) (by omega), f3, mmin_eq, Option.bind_some, emn _ _ (by omega) (by omega) (by omega) (by omega), wrX_F k2 t1 (by omega)]
      have hF2 := hF'.sa t1 (by omega) (L j t).toNat (I (mn (C (L j t)) (G (P j) (t + p))))
      have hC2 := hC'.up (k := L j t) (by omega) (mn (C (L j t)) (G (P j) (t + p)))
      have hK2 := KF_sa u1 k2 t.toNat (I (mn (C (L j t)) (G (P j) (t + p))))
      have hT2 := hK2.tab hT' n2
      obtain ⟨u', C', i1, i2, i3, i4, i5⟩ := ih f (j + 1) _ _ (by omega) (by omega) (by omega) hT2 hF2 hC2 (CP_step hG hnet hP t1 hj (by omega) p1 t2 q)
      refine ⟨u', C', (hK'.trans hK2).trans i1, i2, i3, i4, ?_⟩
      rw [show I j + 1 = I (j + 1) from I_add j 1]
      exact i5
theorem x_fo28 (N : Nat) {p n y z t : Int} {G : Int → Int → Int} (k21 : USt → Int32 → Int32 → Int32 → Option USt) (hz2 : z ≤ 459) (p1 : 1 ≤ p) (p2 : p ≤ 9) (t1 : 0 ≤ t) (t2 : t ≤ z) (y1 : 0 ≤ y) (y2 : y < 8) : ∀ (d f : Nat) (j : Int) (u : USt), d < f → (d : Int) = 8 - j → 0 ≤ j → u.1 17 = I p → FG u G (t + 1) z → (∀ i, 0 ≤ i → i < j → u.2 (36 + i.toNat) t.toNat = I (if t = z then 2147483647 else G i (t + 1))) → ∃ u' : USt, KF u u' ∧ FG u' G (t + 1) z ∧ Col u' (fup (fun i => if t = z then 2147483647 else G i (t + 1)) y t) t ∧ mX9_foresee_h28 N k21 f u (I y) (I z) (I t) (I j) = if t + p ≤ z then mX9_foresee_h96 N k21 N u' (I y) (I z) (I t) (I 0) else k21 u' (I y) (I z) (I (t - 1)) := by
  intro d
  induction d with
  | zero =>
    intro f j u hf hd hj h17 hF hC
    obtain ⟨f, rfl⟩ : ∃ g, f = g + 1 := ⟨f - 1, by omega⟩
    have ky : y.toNat < 8 := by omega
    have hC0 : Col u (fun i => if t = z then 2147483647 else G i (t + 1)) t := fun i i1 i2 => hC i i1 (by omega)
    refine ⟨saX u (36 + y.toNat) t.toNat (I t), KF_sa u ky _ _, hF.sa t1 (by omega) _ _, hC0.up y1 t, ?_⟩
    show mX9_foresee_28 N _ _ _ _ _ _ _ = _
    unfold mX9_foresee_28 mX9_foresee_192
    simp only [nm]
    rw [show (8 : Int32) = I 8 from rfl, if_pos (by rw [I_le (by omega) (by omega) (by omega) (by omega)]; omega), wr_I y1 (by omega) (by omega), wrX_F ky t1 (by omega), h17, I_add]
    by_cases q : t + p ≤ z
    · rw [if_pos q, if_pos (by rw [I_le (by omega) (by omega) (by omega) (by omega)]; exact q)]
      rfl
    · rw [if_neg q, if_neg (by rw [I_le (by omega) (by omega) (by omega) (by omega)]; exact q), show (-1 : Int32) = I (-1) from rfl, I_add, show t + -1 = t - 1 by omega]
  | succ d ih =>
    intro f j u hf hd hj h17 hF hC
    obtain ⟨f, rfl⟩ : ∃ g, f = g + 1 := ⟨f - 1, by omega⟩
    have kj : j.toNat < 8 := by omega
    obtain ⟨u', i1, i2, i3, i4⟩ := ih f (j + 1) (saX u (36 + j.toNat) t.toNat (I (if t = z then 2147483647 else G j (t + 1)))) (by omega) (by omega) (by omega) h17 (hF.sa t1 (by omega) _ _) (fun i i1 i2 => by
      rw [saF_eq]
      by_cases q : i = j
      · subst q
        rw [if_pos rfl, ud_eq]
      · rw [if_neg (by omega)]
        exact hC i i1 (by omega))
    refine ⟨u', (KF_sa u kj _ _).trans i1, i2, i3, ?_⟩
    rw [← i4]
    show mX9_foresee_28 N _ _ _ _ _ _ _ = _
    unfold mX9_foresee_28 mX9_foresee_64
    simp only [nm]
    rw [show (8 : Int32) = I 8 from rfl, if_neg (by rw [I_le (by omega) (by omega) (by omega) (by omega)]; omega), wr_I hj (by omega) (by omega), show I j + 1 = I (j + 1) from I_add j 1]
    by_cases q : t = z
    · rw [if_neg (not_not_intro (by rw [q])), wrX_F kj t1 (by omega), if_pos q]
      rfl
    · rw [if_pos (by rw [I_eq (by omega) (by omega) (by omega) (by omega)]; exact q), wr_I hj (by omega) (by omega), show I t + 1 = I (t + 1) from I_add t 1, rdX_F kj (by omega) (by omega), hF j (t + 1) hj (by omega) (by omega) (by omega), wrX_F kj t1 (by omega), if_neg q]
theorem GP_col {G : Int → Int → Int} {p n y z t : Int} {P : Int → Int} {L : Int → Int → Int} {C : Int → Int} (hG : GP G p n y z P L (t + 1)) (h : CP G p n y z P L t n C) (p1 : 1 ≤ p) : GP (fun i t' => if t' = t then C i else G i t') p n y z P L t := by
  intro t' h1 h2
  by_cases q : t' = t
  · subst q
    obtain ⟨a, b, c⟩ := h
    have e1 : ∀ i, (fun i t'' => if t'' = t' then C i else G i t'') i t' = C i := fun i => if_pos rfl
    have e2 : ∀ i, (fun i t'' => if t'' = t' then C i else G i t'') i (t' + 1) = G i (t' + 1) := fun i => if_neg (by omega)
    have e3 : ∀ i, (fun i t'' => if t'' = t' then C i else G i t'') i (t' + p) = G i (t' + p) := fun i => if_neg (by omega)
    simp only [e1, e2, e3]
    exact ⟨a, b, c⟩
  · have e1 : ∀ i, (fun i t'' => if t'' = t then C i else G i t'') i t' = G i t' := fun i => if_neg (by omega)
    have e2 : ∀ i, (fun i t'' => if t'' = t then C i else G i t'') i (t' + 1) = G i (t' + 1) := fun i => if_neg (by omega)
    have e3 : ∀ i, (fun i t'' => if t'' = t then C i else G i t'') i (t' + p) = G i (t' + p) := fun i => if_neg (by omega)
    simp only [e1, e2, e3]
    exact hG t' (by omega) h2
theorem CP_0 {G : Int → Int → Int} {p n y z t : Int} {P : Int → Int} {L : Int → Int → Int} (hG : GP G p n y z P L (t + 1)) (t1 : 0 ≤ t) (t2 : t ≤ z) (hz2 : z ≤ 459) (y1 : 0 ≤ y) (y2 : y < 8) : CP G p n y z P L t 0 (fup (fun i => if t = z then 2147483647 else G i (t + 1)) y t) := by
  refine ⟨fup_eq _ _ _, fun k k1 k2 => by omega, fun i i1 i2 => ?_⟩
  by_cases q : i = y
  · subst q
    rw [fup_eq]
    refine ⟨by omega, fun g => ?_, .inr (.inl ⟨rfl, rfl⟩)⟩
    rw [(hG (t + 1) (by omega) (by omega)).1]
    omega
  · rw [fup_ne q]
    by_cases q2 : t = z
    · rw [if_pos q2]
      exact ⟨by omega, fun g => by omega, .inl rfl⟩
    · rw [if_neg q2]
      have := ((hG (t + 1) (by omega) (by omega)).2.2 i i1 i2).1
      exact ⟨by omega, fun g => by omega, .inr (.inr (.inl ⟨by omega, rfl⟩))⟩
theorem x_fo21 {sp p n y z : Int} {P : Int → Int} {L : Int → Int → Int} (hnet : Net n P L) (n1 : 0 ≤ n) (n2 : n ≤ 10) (sp2 : sp ≤ 999) (hz : z ≤ sp) (hz2 : z ≤ 459) (z1 : 0 ≤ z) (p1 : 1 ≤ p) (p2 : p ≤ 9) (y1 : 0 ≤ y) (y2 : y < 8) : ∀ (d f : Nat) (t : Int) (u : USt) (G : Int → Int → Int), d < f → (d : Int) = t + 1 → t ≤ z → Tab u 0 sp p n n P L → FG u G (t + 1) z → GP G p n y z P L (t + 1) → ∃ (u' : USt) (G' : Int → Int → Int), KF u u' ∧ FG u' G' 0 z ∧ GP G' p n y z P L 0 ∧ mX9_foresee_h21 NF f u (I y) (I z) (I t) = some u' := by
  have hb := NF_big
  intro d
  induction d with
  | zero =>
    intro f t u G hf hd ht hT hF hG
    obtain ⟨f, rfl⟩ : ∃ g, f = g + 1 := ⟨f - 1, by omega⟩
    rw [show t + 1 = 0 by omega] at hF hG
    refine ⟨u, G, KF.refl u, hF, hG, ?_⟩
    show mX9_foresee_21 NF _ _ _ _ _ = _
    unfold mX9_foresee_21
    rw [show (0 : Int32) = I 0 from rfl, if_pos (by rw [I_lt (by omega) (by omega) (by omega) (by omega)]; omega)]
  | succ d ih =>
    intro f t u G hf hd ht hT hF hG
    obtain ⟨f, rfl⟩ : ∃ g, f = g + 1 := ⟨f - 1, by omega⟩
    have fin : ∀ (u2 : USt) (C : Int → Int), KF u u2 → FG u2 G (t + 1) z → Col u2 C t → CP G p n y z P L t n C → ∃ (u' : USt) (G' : Int → Int → Int), KF u u' ∧ FG u' G' 0 z ∧ GP G' p n y z P L 0 ∧ mX9_foresee_h21 NF f u2 (I y) (I z) (I (t - 1)) = some u' := by
      intro u2 C k1 k2 k3 k4
      obtain ⟨u', G', j1, j2, j3, j4⟩ := ih f (t - 1) u2 (fun i t' => if t' = t then C i else G i t') (by omega) (by omega) (by omega) (k1.tab hT n2) (fun i t' i1 i2 i3 i4 => by
        by_cases q : t' = t
        · subst q
          show _ = I (if t' = t' then C i else G i t')
          rw [if_pos rfl]
          exact k3 i i1 i2
        · show _ = I (if t' = t then C i else G i t')
          rw [if_neg q]
          exact k2 i t' i1 i2 (by omega) i4) (by
        rw [show t - 1 + 1 = t by omega]
        exact GP_col hG k4 p1)
      exact ⟨u', G', k1.trans j1, j2, j3, j4⟩
    obtain ⟨u2, a1, a2, a3, a4⟩ := x_fo28 NF (p := p) (n := n) (y := y) (mX9_foresee_h21 NF f) hz2 p1 p2 (by omega) ht y1 y2 8 NF 0 u (by omega) (by omega) (by omega) hT.2.2.1 hF (fun i i1 i2 => by omega)
    have hcp := CP_0 hG (by omega) ht hz2 y1 y2
    show ∃ (u' : USt) (G' : Int → Int → Int), _ ∧ _ ∧ _ ∧ mX9_foresee_21 NF _ _ _ _ _ = _
    unfold mX9_foresee_21
    rw [show (0 : Int32) = I 0 from rfl, if_neg (by rw [I_lt (by omega) (by omega) (by omega) (by omega)]; omega), a4]
    by_cases q : t + p ≤ z
    · rw [if_pos q]
      obtain ⟨u3, C', b1, b2, b3, b4, b5⟩ := x_fo96 NF hG hnet (mX9_foresee_h21 NF f) n2 (by omega) sp2 hz hz2 p1 p2 (by omega) q y1 y2 n.toNat NF 0 u2 _ (by omega) (by omega) (by omega) (a1.tab hT n2) a2 a3 hcp
      rw [b5]
      exact fin u3 C' (a1.trans b1) b2 b3 b4
    · rw [if_neg q]
      have hall : ∀ (e : Nat), CP G p n y z P L t e (fup (fun i => if t = z then 2147483647 else G i (t + 1)) y t) := by
        intro e
        induction e with
        | zero => exact hcp
        | succ e ih2 =>
          have := CP_skip ih2 (.inr (by omega))
          rw [show ((e : Nat) : Int) + 1 = ((e + 1 : Nat) : Int) by omega] at this
          exact this
      have h5 := hall n.toNat
      rw [show ((n.toNat : Nat) : Int) = n by omega] at h5
      exact fin u2 _ a1 a2 a3 h5
/-- the class's foresee -/
theorem x_foresee {u : USt} {z p n y : Int} {P : Int → Int} {L : Int → Int → Int} (hT : Tab u 0 z p n n P L) (hnet : Net n P L) (n1 : 0 ≤ n) (n2 : n ≤ 10) (hz2 : z ≤ 459) (z1 : 0 ≤ z) (p1 : 1 ≤ p) (p2 : p ≤ 9) (y1 : 0 ≤ y) (y2 : y < 8) : ∃ (u' : USt) (G : Int → Int → Int), KF u u' ∧ FG u' G 0 z ∧ GP G p n y z P L 0 ∧ mX9_foresee NF u (I y) = some u' := by
  have hb := NF_big
  obtain ⟨u', G, a1, a2, a3, a4⟩ := x_fo21 hnet n1 n2 (by omega) (Int.le_refl z) hz2 z1 p1 p2 y1 y2 (z + 1).toNat NF z u (fun _ _ => 0) (by omega) (by omega) (Int.le_refl z) hT (fun i t i1 i2 i3 i4 => by omega) (fun t h1 h2 => by omega)
  refine ⟨u', G, a1, a2, a3, ?_⟩
  unfold mX9_foresee
  simp only [nm]
  rw [x_isIslet NF (by omega) (by omega), Option.bind_some, bo_t (show 0 ≤ y ∧ y < 8 from ⟨y1, y2⟩), if_pos (by decide), hT.2.1, mmin_eq, Option.bind_some, show (459 : Int32) = I 459 from rfl]
  have e : (if I 459 < I z then I 459 else I z) = I z := if_neg (by rw [I_lt (by omega) (by omega) (by omega) (by omega)]; omega)
  rw [e]
  exact a4
