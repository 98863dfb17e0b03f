/-- the table with the first m offsets anew -/
def rwT (rw s : Int → Int) : Nat → Int → Int
  | 0 => rw
  | m + 1 => rwS (rwT rw s m) m (s m)
theorem rwT_Shf {rw s : Int → Int} {n : Int} (h : Shf rw n) (hs : ∀ j : Nat, (j : Int) < n → 0 ≤ s j ∧ s j ≤ 9) : ∀ m : Nat, (m : Int) ≤ n → Shf (rwT rw s m) n := by
  intro m
  induction m with
  | zero => exact fun _ => h
  | succ m ih => exact fun q => Shf_S (ih (by omega)) (hs m (by omega)).1 (hs m (by omega)).2
theorem Xst_less {u : USt} {b : BSt} {rw : Int → Int} {n fr : Int} (h : Xst u b rw n fr) (h0 : 0 < n) : ∃ x : Nat × Nat × (Nat → BV), b = some x ∧ (x.2.1 : Int) = n ∧ ∀ w : Int32, Xst (siX (siX u 9 w) 10 (I (n - 1))) (some (x.1, x.2.1 - 1, x.2.2)) rw (n - 1) fr := by
  obtain ⟨a1, a2, a3, a4, a5, a6, a7, a8⟩ := h
  cases b with
  | none => have := a6 rfl; omega
  | some x =>
    have hx := a7 x rfl
    refine ⟨x, rfl, hx, fun w => ⟨rfl, by omega, by omega, a4, a5, fun q => absurd q (by simp), fun y q => ?_, fun k k1 k2 => ?_⟩⟩
    · cases q
      show ((x.2.1 - 1 : Nat) : Int) = n - 1
      omega
    · obtain ⟨y, hy, hk, hb, hv⟩ := a8 k k1 (by omega)
      cases hy
      refine ⟨_, rfl, ?_, hb, hv⟩
      show k.toNat < x.2.1 - 1
      omega
theorem x_back (N : Nat) {rw : Int → Int} {fr i : Int} (hi : 0 ≤ i) : ∀ (d f : Nat) (n : Int) (u : USt) (b : BSt), d < f → (d : Int) = n - i → u.1 12 = I i → Xst u b rw n fr → ∃ (w : Int32) (b' : BSt), Xst (siX (siX u 9 w) 10 (I i)) b' rw i fr ∧ mX4_giveBack_h7 N f u b (I (n - 1)) = mX4_giveBack_31 N (siX (siX u 9 w) 10 (I i)) b' := by
  intro d
  induction d with
  | zero =>
    intro f n u b hf hd h12 hX
    obtain ⟨f, rfl⟩ : ∃ g, f = g + 1 := ⟨f - 1, by omega⟩
    have hn : n = i := by omega
    subst hn
    have h3 := hX.2.2.1
    have e : siX (siX u 9 (u.1 9)) 10 (I n) = u := by
      unfold siX
      have e1 : va_up (va_up u.1 9 (u.1 9)) 10 (I n) = u.1 := by
        funext j
        by_cases q : j = 10
        · subst q
          rw [vu_eq]
          exact hX.1.symm
        · rw [vu_ne q]
          by_cases q2 : j = 9
          · subst q2
            rw [vu_eq]
          · rw [vu_ne q2]
      show (va_up (va_up u.1 9 (u.1 9)) 10 (I n), u.2) = u
      rw [e1]
    refine ⟨u.1 9, b, by rw [e]; exact hX, ?_⟩
    rw [e]
    show mX4_giveBack_7 N _ _ _ _ = _
    unfold mX4_giveBack_7
    simp only [nm]
    by_cases q : n - 1 < 0
    · rw [if_pos (show I (n - 1) < 0 by rw [show (0 : Int32) = I 0 from rfl, I_lt (by omega) (by omega) (by omega) (by omega)]; omega)]
    · rw [if_neg (show ¬ I (n - 1) < 0 by rw [show (0 : Int32) = I 0 from rfl, I_lt (by omega) (by omega) (by omega) (by omega)]; omega), h12, if_pos (by rw [I_lt (by omega) (by omega) (by omega) (by omega)]; omega)]
  | succ d ih =>
    intro f n u b hf hd h12 hX
    obtain ⟨f, rfl⟩ : ∃ g, f = g + 1 := ⟨f - 1, by omega⟩
    have h1 := hX.1
    have h3 := hX.2.2.1
    obtain ⟨x, rfl, hx, hx2⟩ := Xst_less hX (by omega)
    obtain ⟨w, b', e1, e2⟩ := ih f (n - 1) (siX (siX u 9 (u.1 9 + 1)) 10 (I (n - 1))) _ (by omega) (by omega) h12 (hx2 (u.1 9 + 1))
    have e : siX (siX (siX (siX u 9 (u.1 9 + 1)) 10 (I (n - 1))) 9 w) 10 (I i) = siX (siX u 9 w) 10 (I i) := by
      unfold siX
      have e1 : va_up (va_up (va_up (va_up u.1 9 (u.1 9 + 1)) 10 (I (n - 1))) 9 w) 10 (I i) = va_up (va_up u.1 9 w) 10 (I i) := by
        funext j
        by_cases q : j = 10
        · subst q
          rw [vu_eq, vu_eq]
        · rw [vu_ne q, vu_ne q]
          by_cases q2 : j = 9
          · subst q2
            rw [vu_eq, vu_eq]
          · rw [vu_ne q2, vu_ne q2, vu_ne q, vu_ne q2]
      show (va_up (va_up (va_up (va_up u.1 9 (u.1 9 + 1)) 10 (I (n - 1))) 9 w) 10 (I i), u.2) = _
      rw [e1]
    rw [e] at e1 e2
    refine ⟨w, b', e1, ?_⟩
    show mX4_giveBack_7 N _ _ _ _ = _
    unfold mX4_giveBack_7 mJx4a65c_remove_915e3 mJx4a65c_fastRemove_b59b0 mJx4a65c_fastRemove_b59b0_34 mJ15_checkIndex_7cf53 mJ3_checkIndex_8e157
    simp only [nm]
    rw [if_neg (show ¬ I (n - 1) < 0 by rw [show (0 : Int32) = I 0 from rfl, I_lt (by omega) (by omega) (by omega) (by omega)]; omega), h12, if_neg (show ¬ I (n - 1) < I i by rw [I_lt (by omega) (by omega) (by omega) (by omega)]; omega), h1]
    rw [if_neg (show ¬ I (n - 1) < 0 by rw [show (0 : Int32) = I 0 from rfl, I_lt (by omega) (by omega) (by omega) (by omega)]; omega), if_pos (show I (n - 1) < I n by rw [I_lt (by omega) (by omega) (by omega) (by omega)]; omega)]
    have h10 : va_up u.1 9 (u.1 9 + 1) 10 = I n := h1
    unfold bget
    simp only [Option.bind_some]
    rw [I_toInt (by omega) (by omega), if_pos ⟨by omega, by omega, by omega⟩]
    have h11 : va_up u.1 9 (u.1 9 + 1) 10 - 1 = I (n - 1) := by
      rw [h10]
      exact I_sub n 1
    simp only [h11]
    rw [if_pos (show I (n - 1) ≤ I (n - 1) by rw [I_le (by omega) (by omega) (by omega) (by omega)]; omega)]
    unfold brm
    simp only []
    rw [I_toInt (by omega) (by omega), if_pos ⟨by omega, by omega, by omega⟩]
    have := e2
    rw [show n - 1 - 1 = n - 1 + -1 by omega, ← I_add] at this
    exact this
theorem x_back33 (N : Nat) {rw s : Int → Int} {fr n : Int} {u : USt} (h9 : ∀ j : Nat, (j : Int) < n → u.2 9 j = I (s j)) (hs : ∀ j : Nat, (j : Int) < n → 0 ≤ s j ∧ s j ≤ 9) : ∀ (d f j : Nat) (b : BSt), d < f → (d : Int) = n - j → Xst u b (rwT rw s j) n fr → ∃ b', Xst u b' (rwT rw s n.toNat) n fr ∧ mX4_giveBack_h33 N f u b (I j) = mX4_giveBack_70 N u b' := by
  intro d
  induction d with
  | zero =>
    intro f j b hf hd hX
    obtain ⟨f, rfl⟩ : ∃ g, f = g + 1 := ⟨f - 1, by omega⟩
    have h3 := hX.2.2.1
    refine ⟨b, by rw [show n.toNat = j by omega]; exact hX, ?_⟩
    show mX4_giveBack_33 N _ _ _ _ = _
    unfold mX4_giveBack_33
    rw [x_size N hX, Option.bind_some]
    simp (disch := omega) only [I_le]
    rw [if_pos (by omega)]
  | succ d ih =>
    intro f j b hf hd hX
    obtain ⟨f, rfl⟩ : ∃ g, f = g + 1 := ⟨f - 1, by omega⟩
    have h3 := hX.2.2.1
    have hsj := hs j (by omega)
    have hb := hX.row (show (0 : Int) ≤ j by omega) (by omega)
    obtain ⟨b', e1, e2⟩ := ih f (j + 1) (bset b j (I (s j))) (by omega) (by omega) (Xst_S hX (show (0 : Int) ≤ j by omega) (by omega) (by omega) (by omega))
    refine ⟨b', e1, ?_⟩
    show mX4_giveBack_33 N _ _ _ _ = _
    unfold mX4_giveBack_33 bsh
    rw [x_size N hX, Option.bind_some, x_get N hX (by omega) (by omega), Option.bind_some, hb.skip, rdX_9 (by omega) (by omega), hb.skip, show (1 : Int32) = I 1 from rfl, I_add]
    simp (disch := omega) only [I_le, I_lit]
    rw [if_neg (by omega), if_neg (by omega), Int.toNat_natCast, h9 j (by omega)]
    exact e2
theorem m_re55 (N : Nat) : ∀ (d f : Nat) (j : Nat) (v : MSt), d < f → (d : Int) = 24 - j → (∀ i : Nat, i < j → v.2.1 22 i = v.2.1 27 i) → ∃ g : Nat → Int32, (∀ i : Nat, i < 24 → g i = v.2.1 27 i) ∧ mM_restore_h55 N f v (I j) = some (v.1 4, siM (siM (sfM v 22 g) 6 (v.1 24)) 21 (v.1 25)) := by
  intro d
  induction d with
  | zero =>
    intro f j v hf hd hi
    obtain ⟨f, rfl⟩ : ∃ g, f = g + 1 := ⟨f - 1, by omega⟩
    refine ⟨v.2.1 22, fun i hi2 => hi i (by omega), ?_⟩
    rw [sfM_self]
    show mM_restore_55 N _ _ _ = _
    unfold mM_restore_55
    simp only [nm]
    simp (disch := omega) only [I_le, I_lit]
    rw [if_pos (by omega)]
    rfl
  | succ d ih =>
    intro f j v hf hd hi
    obtain ⟨f, rfl⟩ : ∃ g, f = g + 1 := ⟨f - 1, by omega⟩
    obtain ⟨g, g1, g2⟩ := ih f (j + 1) (saM v 22 j (v.2.1 27 j)) (by omega) (by omega) (fun i hi2 => by
      show va_up v.2.1 22 (upd (v.2.1 22) j (v.2.1 27 j)) 22 i = v.2.1 27 i
      rw [vu_eq]
      by_cases q : i = j
      · subst q
        rw [ud_eq]
      · rw [ud_ne q]
        exact hi i (by omega))
    refine ⟨g, g1, ?_⟩
    rw [sfM_saM] at g2
    show mM_restore_55 N _ _ _ = _
    unfold mM_restore_55
    simp only [nm]
    simp (disch := omega) only [I_le, I_lit]
    rw [if_neg (by omega), rd_I (by omega) (by omega) (by omega), wr_I (by omega) (by omega) (by omega), I_add]
    exact g2
/-- what stays of the reference's state while offsets and notes are written -/
def KR (v v' : MSt) : Prop := v'.1 = v.1 ∧ (∀ a, a ≠ 5 → v'.2.1 a = v.2.1 a)
theorem m_re21 {rw s : Int → Int} {fr n se : Int} : ∀ (d f j : Nat) (v : MSt), d < f → (d : Int) = n - j → Mst v (rwT rw s j) n fr (-1) (-1) se → (∀ j : Nat, (j : Int) < n → v.2.1 26 j = I (s j)) → (∀ j : Nat, (j : Int) < n → 0 ≤ s j ∧ s j ≤ 9) → ∃ v', KR v v' ∧ Mst v' (rwT rw s n.toNat) n fr (-1) (-1) se ∧ mM_restore_h21 NF f v (I j) = mM_restore_h55 NF NF v' 0 := by
  intro d
  induction d with
  | zero =>
    intro f j v hf hd hM h26 hs
    obtain ⟨f, rfl⟩ : ∃ g, f = g + 1 := ⟨f - 1, by omega⟩
    refine ⟨v, ⟨rfl, fun _ _ => rfl⟩, by rw [show n.toNat = j by omega]; exact hM, ?_⟩
    have h4 := hM.2.2.2.1
    have h5 := hM.2.2.2.2.1
    have h6 := hM.2.2.2.2.2.1
    show mM_restore_21 NF _ _ _ = _
    unfold mM_restore_21
    rw [h4]
    simp (disch := omega) only [I_le]
    rw [if_pos (by omega)]
  | succ d ih =>
    intro f j v hf hd hM h26 hs
    obtain ⟨f, rfl⟩ : ∃ g, f = g + 1 := ⟨f - 1, by omega⟩
    have hsj := hs j (by omega)
    have h4 := hM.2.2.2.1
    have h5 := hM.2.2.2.2.1
    have h6 := hM.2.2.2.2.2.1
    obtain ⟨v', k1, k2, k3⟩ := ih f (j + 1) (saM v 5 (10 * (j : Int) + 8).toNat (I (s j))) (by omega) (by omega) (Mst_S hM rfl (by omega) (by omega) (by omega) (by omega)) h26 hs
    refine ⟨v', ⟨k1.1, fun a ha => (k1.2 a ha).trans (vu_ne ha)⟩, k2, ?_⟩
    show mM_restore_21 NF _ _ _ = _
    unfold mM_restore_21
    simp only [nm]
    rw [h4]
    simp (disch := omega) only [I_le, I_lit, rd_I, wr_I, I_mul, I_add]
    rw [if_neg (by omega), Int.toNat_natCast, h26 j (by omega)]
    exact k3
theorem pu_restore : Pu_restore InvX := by
  intro u b v h
  have hh := h
  have hN' := NF_big
  obtain ⟨n, rw, fr, se, hX, hM, hs, hP, hN, ⟨i, i1, i2, i3, i4, i5⟩⟩ := h
  have hn10 := hX.2.2.1
  unfold mX10_restore mX4_isKept mX4_isKept_13 mM_restore
  rw [i1, i2]
  by_cases q : i = -1
  · subst q
    exact ⟨_, _, _, _, rfl, rfl, hh⟩
  · obtain ⟨⟨f, f1, f2, f3⟩, ⟨m, m1, m2, m3, m4⟩, j1, j2⟩ := i5 q
    have hk : ∀ j : Nat, ∃ s : Int, (j : Int) < i → u.2 9 j = I s ∧ v.2.1 26 j = I s ∧ 0 ≤ s ∧ s ≤ 9 := by
      intro j
      by_cases q : (j : Int) < i
      · obtain ⟨s, hs⟩ := j2 j q
        exact ⟨s, fun _ => hs⟩
      · exact ⟨0, fun g => absurd g q⟩
    obtain ⟨s', hs'⟩ : ∃ s' : Nat → Int, ∀ j : Nat, (j : Int) < i → u.2 9 j = I (s' j) ∧ v.2.1 26 j = I (s' j) ∧ 0 ≤ s' j ∧ s' j ≤ 9 := ⟨fun j => Classical.choose (hk j), fun j => Classical.choose_spec (hk j)⟩
    obtain ⟨s, hs2⟩ : ∃ s : Int → Int, ∀ j : Nat, s j = s' j := ⟨fun z => s' z.toNat, fun j => congrArg s' (Int.toNat_natCast j)⟩
    have ne : ¬ I i = -1 := by
      rw [show (-1 : Int32) = I (-1) from rfl, I_eq (by omega) (by omega) (by omega) (by omega)]
      exact q
    rw [if_neg ne, if_pos ne]
    obtain ⟨w, b1, e1, e2⟩ := x_back NF (rw := rw) (fr := fr) (i := i) (by omega) (n - i).toNat NF n u b (by omega) (by omega) i1 hX
    obtain ⟨b2, e3, e4⟩ := x_back33 NF (rw := rw) (s := s) (fr := fr) (n := i) (u := siX (siX u 9 w) 10 (I i)) (fun j hj => by rw [hs2]; exact (hs' j hj).1) (fun j hj => by rw [hs2]; exact (hs' j hj).2.2) i.toNat NF 0 b1 (by omega) (by omega) e1
    have hM2 : Mst (siM v 4 (I i)) rw i fr (-1) (-1) se := by
      obtain ⟨hr, hf, hf2, hn, hn1, hn2, t1, t2, t3, t4, t5, t6, t7⟩ := hM
      exact ⟨hr, hf, hf2, rfl, by omega, by omega, t1, t2, t3, t4, t5, t6, fun k k1 k2 => t7 k k1 (by omega)⟩
    obtain ⟨v', k1, k2, k3⟩ := m_re21 (rw := rw) (s := s) (fr := fr) (n := i) (se := se) i.toNat NF 0 (siM v 4 (I i)) (by omega) (by omega) hM2 (fun j hj => by rw [hs2]; exact (hs' j hj).2.1) (fun j hj => by rw [hs2]; exact (hs' j hj).2.2)
    obtain ⟨g, g1, g2⟩ := m_re55 NF 24 NF 0 v' (by omega) (by omega) (fun i hi => by omega)
    have k1' := k1.1
    have z4 : v'.1 4 = I i := by rw [k1']; rfl
    have z24 : v'.1 24 = I f := by rw [k1']; exact f3
    have z25 : v'.1 25 = I m := by rw [k1']; exact m3
    rw [z4, z24, z25] at g2
    refine ⟨I i, siX (siX (sfX (siX (siX u 9 w) 10 (I i)) 7 (va_cpy (u.2 11) (u.2 7) 0 0 24)) 11 (I m)) 19 (I f), b2, siM (siM (sfM v' 22 g) 6 (I f)) 21 (I m), ?_, ?_, ?_⟩
    rotate_left
    · simp only [nm]
      show mM_restore_h21 NF NF (siM v 4 (I i)) (I ((0 : Nat) : Int)) = _
      rw [k3]
      exact g2
    · obtain ⟨hr, hf, hf2, hn, hn1, hn2, t1, t2, t3, t4, t5, t6, t7⟩ := k2
      obtain ⟨x1, x2, x3, x4, x5, x6⟩ := e3
      refine ⟨i, rwT rw s i.toNat, f, se, ⟨rfl, x2, x3, rfl, f1, x6⟩, ⟨hr, rfl, f1, z4, hn1, hn2, t1, t2, t3, t4, t5, t6, t7⟩, rwT_Shf (fun k k1 k2 => hs k k1 (by omega)) (fun j hj => by rw [hs2]; exact (hs' j hj).2.2) i.toNat (by omega), ?_, ⟨m, m1, rfl, rfl, fun j hj => ?_, fun j hj => ?_⟩, i, i1, ?_, by omega, by omega, fun _ => ⟨⟨f, f1, f2, ?_⟩, ⟨m, m1, m2, ?_, m4⟩, fun j hj => ?_, fun j hj => ?_⟩⟩
      · obtain ⟨p, p1, p2, p3, p4⟩ := hP
        refine ⟨p, p1, p2, ?_, fun j hj => ?_⟩
        · show v'.1 1 = _
          rw [k1']
          exact p3
        · show ∃ c, _ ∧ v'.2.1 0 j = _ ∧ _
          rw [k1.2 0 (by decide)]
          exact p4 j hj
      · show va_cpy (u.2 11) (u.2 7) 0 0 24 j = g j
        rw [cpy_lt hj, g1 j hj, k1.2 27 (by decide)]
        exact j1 j hj
      · show ∃ a t c w, va_cpy (u.2 11) (u.2 7) 0 0 24 (4 * j) = _ ∧ va_cpy (u.2 11) (u.2 7) 0 0 24 (4 * j + 1) = _ ∧ va_cpy (u.2 11) (u.2 7) 0 0 24 (4 * j + 2) = _ ∧ va_cpy (u.2 11) (u.2 7) 0 0 24 (4 * j + 3) = _ ∧ _
        rw [cpy_lt (by omega), cpy_lt (by omega), cpy_lt (by omega), cpy_lt (by omega)]
        exact m4 j hj
      · show v'.1 23 = _
        rw [k1']
        exact i2
      · exact z24
      · exact z25
      · show u.2 11 j = v'.2.1 27 j
        rw [k1.2 27 (by decide)]
        exact j1 j hj
      · show ∃ s, u.2 9 j = _ ∧ v'.2.1 26 j = _ ∧ _
        rw [k1.2 26 (by decide)]
        exact j2 j hj
    · have E : mX4_giveBack NF u b = some (siX (sfX (siX (siX u 9 w) 10 (I i)) 7 (va_cpy (u.2 11) (u.2 7) 0 0 24)) 11 (I m), b2) := by
        unfold mX4_giveBack
        rw [x_size NF hX, Option.bind_some]
        simp only [nm]
        rw [show I n - 1 = I (n - 1) from I_sub n 1, e2]
        unfold mX4_giveBack_31
        rw [show (0 : Int32) = I ((0 : Nat) : Int) from rfl, e4]
        unfold mX4_giveBack_70
        have E2 : mX5_becomeLike_6_10 NF (siX (siX u 9 w) 10 (I i)) = some (siX (sfX (siX (siX u 9 w) 10 (I i)) 7 (va_cpy (u.2 11) (u.2 7) 0 0 24)) 11 (u.1 14)) := rfl
        rw [E2, m2]
        rfl
      rw [E]
      have E3 : mX4_wasFrosty NF (siX (sfX (siX (siX u 9 w) 10 (I i)) 7 (va_cpy (u.2 11) (u.2 7) 0 0 24)) 11 (I m)) = some (I f) := by
        unfold mX4_wasFrosty
        show gd (u.1 13 = 0 ∨ u.1 13 = 1) (some (u.1 13)) = _
        rw [f2]
        rcases f1 with rfl | rfl <;> rfl
      show ((mX4_wasFrosty NF (siX (sfX (siX (siX u 9 w) 10 (I i)) 7 (va_cpy (u.2 11) (u.2 7) 0 0 24)) 11 (I m))).bind fun r5 => gd (r5 = 0 ∨ r5 = 1) (nm (siX (siX (sfX (siX (siX u 9 w) 10 (I i)) 7 (va_cpy (u.2 11) (u.2 7) 0 0 24)) 11 (I m)) 19 r5) fun u6 => (mJx4a65c_size_8abf5 NF u6).bind fun r7 => some (r7, u6, b2))) = _
      rw [E3, Option.bind_some, gd_pos (show I f = 0 ∨ I f = 1 by rcases f1 with rfl | rfl; exact .inl rfl; exact .inr rfl)]
      rfl
