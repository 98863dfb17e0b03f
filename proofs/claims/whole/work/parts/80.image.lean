def sfM (v : MSt) (k : Nat) (g : Nat → Int32) : MSt := (v.1, va_up v.2.1 k g, v.2.2)
theorem sfM_saM (v : MSt) (k j : Nat) (x : Int32) (g : Nat → Int32) : sfM (saM v k j x) k g = sfM v k g := by
  unfold sfM saM
  rw [va_up_2]
theorem sfX_saX (u : USt) (k j : Nat) (x : Int32) (g : Nat → Int32) : sfX (saX u k j x) k g = sfX u k g := by
  unfold sfX saX
  rw [va_up_2]
theorem sfX_self (u : USt) (k : Nat) : sfX u k (u.2 k) = u := by
  unfold sfX
  have e : va_up u.2 k (u.2 k) = u.2 := by
    funext j
    by_cases q : j = k
    · subst q
      rw [vu_eq]
    · rw [vu_ne q]
  rw [e]
theorem sfM_self (v : MSt) (k : Nat) : sfM v k (v.2.1 k) = v := by
  unfold sfM
  have e : va_up v.2.1 k (v.2.1 k) = v.2.1 := by
    funext j
    by_cases q : j = k
    · subst q
      rw [vu_eq]
    · rw [vu_ne q]
  rw [e]
theorem cpy_lt {f g : Nat → Int32} {n j : Nat} (h : j < n) : va_cpy f g 0 0 n j = f j := by
  unfold va_cpy
  rw [if_pos ⟨by omega, by omega⟩]
  congr 1
  omega
def keepX (u : USt) (fr : Int32) : USt := siX (sfX (siX u 13 fr) 11 (va_cpy (u.2 7) (u.2 11) 0 0 24)) 14 (u.1 11)
theorem x_keep (N : Nat) {b : BSt} {rw : Int → Int} {n fr : Int} {x : Int} (hx : x = 0 ∨ x = 1) : ∀ (d f : Nat) (j : Nat) (u : USt), d < f → (d : Int) = n - j → Xst u b rw n fr → u.1 12 = I n → (∀ i : Nat, i < j → u.2 9 i = I (rowk rw i 8)) → ∃ g : Nat → Int32, (∀ i : Nat, (i : Int) < n → g i = I (rowk rw i 8)) ∧ mX4_keep_h16 N b f u (I x) (I j) = some (keepX (sfX u 9 g) (I x)) := by
  intro d
  induction d with
  | zero =>
    intro f j u hf hd hX h12 hi
    obtain ⟨f, rfl⟩ : ∃ g, f = g + 1 := ⟨f - 1, by omega⟩
    have hn := hX.2.2.1
    refine ⟨u.2 9, fun i hi2 => hi i (by omega), ?_⟩
    rw [sfX_self]
    show mX4_keep_16 N b _ _ _ _ = _
    unfold mX4_keep_16 mX5_becomeLike_10_6 nm
    rw [h12]
    simp (disch := omega) only [I_le]
    rw [if_pos (by omega), gd_pos (show I x = 0 ∨ I x = 1 by rcases hx with rfl | rfl; exact .inl rfl; exact .inr rfl)]
    rfl
  | succ d ih =>
    intro f j u hf hd hX h12 hi
    obtain ⟨f, rfl⟩ : ∃ g, f = g + 1 := ⟨f - 1, by omega⟩
    have hn := hX.2.2.1
    have hb := hX.row (show (0 : Int) ≤ j by omega) (by omega)
    obtain ⟨g, g1, g2⟩ := ih f (j + 1) (saX u 9 j (I (rowk rw j 8))) (by omega) (by omega) hX h12 (fun i hi2 => by
      show va_up u.2 9 (upd (u.2 9) j (I (rowk rw j 8))) 9 i = _
      rw [vu_eq]
      by_cases q : i = j
      · subst q
        rw [ud_eq]
      · rw [ud_ne q]
        exact hi i (by omega))
    refine ⟨g, g1, ?_⟩
    rw [sfX_saX] at g2
    show mX4_keep_16 N b _ _ _ _ = _
    unfold mX4_keep_16 nm
    rw [h12]
    simp (disch := omega) only [I_le]
    rw [if_neg (by omega), x_get N hX (by omega) (by omega), Option.bind_some, hb.skip, hb.f5, wrX_9 (by omega) (by omega), show (1 : Int32) = I 1 from rfl, I_add]
    exact g2
theorem m_im36 (N : Nat) : ∀ (d f : Nat) (j : Nat) (v : MSt), d < f → (d : Int) = 24 - j → (∀ i : Nat, i < j → v.2.1 27 i = v.2.1 22 i) → ∃ g : Nat → Int32, (∀ i : Nat, i < 24 → g i = v.2.1 22 i) ∧ mM_image_h36 N f v (I j) = some (v.1 4, siM (siM (siM (sfM v 27 g) 23 (v.1 4)) 24 (v.1 6)) 25 (v.1 21)) := by
  intro d
  induction d with
  | zero =>
    intro f j v hf hd hi
    obtain ⟨f, rfl⟩ : ∃ g, f = g + 1 := ⟨f - 1, by omega⟩
    refine ⟨v.2.1 27, fun i hi2 => hi i (by omega), ?_⟩
    rw [sfM_self]
    show mM_image_36 N _ _ _ = _
    unfold mM_image_36 nm
    simp (disch := omega) only [I_le, I_lit]
    rw [if_pos (by omega)]
    rfl
  | succ d ih =>
    intro f j v hf hd hi
    obtain ⟨f, rfl⟩ : ∃ g, f = g + 1 := ⟨f - 1, by omega⟩
    obtain ⟨g, g1, g2⟩ := ih f (j + 1) (saM v 27 j (v.2.1 22 j)) (by omega) (by omega) (fun i hi2 => by
      show va_up v.2.1 27 (upd (v.2.1 27) j (v.2.1 22 j)) 27 i = v.2.1 22 i
      rw [vu_eq]
      by_cases q : i = j
      · subst q
        rw [ud_eq]
      · rw [ud_ne q]
        exact hi i (by omega))
    refine ⟨g, g1, ?_⟩
    rw [sfM_saM] at g2
    show mM_image_36 N _ _ _ = _
    unfold mM_image_36 nm
    simp (disch := omega) only [I_le, I_lit]
    rw [if_neg (by omega), rd_I (by omega) (by omega) (by omega), wr_I (by omega) (by omega) (by omega), I_add]
    exact g2
theorem m_im2 {rw : Int → Int} {n : Int} (hn : 0 ≤ n) (hn2 : n ≤ 10) : ∀ (d f : Nat) (j : Nat) (v : MSt), d < f → (d : Int) = n - j → RowsM v rw → v.1 4 = I n → (∀ i : Nat, i < j → v.2.1 26 i = I (rowk rw i 8)) → ∃ g g2 : Nat → Int32, (∀ i : Nat, (i : Int) < n → g i = I (rowk rw i 8)) ∧ (∀ i : Nat, i < 24 → g2 i = v.2.1 22 i) ∧ mM_image_h2 NF f v (I j) = some (v.1 4, siM (siM (siM (sfM (sfM v 26 g) 27 g2) 23 (v.1 4)) 24 (v.1 6)) 25 (v.1 21)) := by
  have hN := NF_big
  intro d
  induction d with
  | zero =>
    intro f j v hf hd hr h4 hi
    obtain ⟨f, rfl⟩ : ∃ g, f = g + 1 := ⟨f - 1, by omega⟩
    obtain ⟨g2, k1, k2⟩ := m_im36 NF 24 NF 0 v (by omega) (by omega) (fun i hi => by omega)
    refine ⟨v.2.1 26, g2, fun i hi2 => hi i (by omega), k1, ?_⟩
    rw [sfM_self]
    show mM_image_2 NF _ _ _ = _
    unfold mM_image_2
    rw [if_pos (show v.1 4 ≤ I j by rw [h4, I_le (by omega) (by omega) (by omega) (by omega)]; omega)]
    exact k2
  | succ d ih =>
    intro f j v hf hd hr h4 hi
    obtain ⟨f, rfl⟩ : ∃ g, f = g + 1 := ⟨f - 1, by omega⟩
    obtain ⟨g, g2, k1, k2, k3⟩ := ih f (j + 1) (saM v 26 j (I (rowk rw j 8))) (by omega) (by omega) hr h4 (fun i hi2 => by
      show va_up v.2.1 26 (upd (v.2.1 26) j (I (rowk rw j 8))) 26 i = _
      rw [vu_eq]
      by_cases q : i = j
      · subst q
        rw [ud_eq]
      · rw [ud_ne q]
        exact hi i (by omega))
    refine ⟨g, g2, k1, k2, ?_⟩
    rw [sfM_saM] at k3
    show mM_image_2 NF _ _ _ = _
    unfold mM_image_2 nm
    rw [if_neg (show ¬ v.1 4 ≤ I j by rw [h4, I_le (by omega) (by omega) (by omega) (by omega)]; omega)]
    simp (disch := omega) only [I_lit, I_mul, I_add, rd_I, wr_I]
    have e : v.2.1 5 (10 * (j : Int) + 8).toNat = I (rowk rw j 8) := hr _ (by omega) (by omega)
    rw [e]
    exact k3
theorem pu_image : Pu_image InvX := by
  intro u b v h
  have hN' := NF_big
  obtain ⟨n, rw, fr, se, hX, hM, hs, hP, hN, hG⟩ := h
  have hX' := hX
  have hM' := hM
  obtain ⟨h1, h2, h3, h4, h5, h6⟩ := hX
  obtain ⟨hr, hf, hf2, hn, hn1, hn2, hr'⟩ := hM
  obtain ⟨g, x1, x2⟩ := x_keep NF (b := b) (rw := rw) (n := n) (fr := fr) h5 n.toNat NF 0 (siX u 12 (I n)) (by omega) (by omega) hX' rfl (fun i hi => by omega)
  obtain ⟨g', g2, y1, y2, y3⟩ := m_im2 h2 h3 n.toNat NF 0 v (by omega) (by omega) hr hn (fun i hi => by omega)
  obtain ⟨m, m1, m2, m3, m4, m5⟩ := hN
  rw [hn] at y3
  refine ⟨I n, keepX (sfX (siX u 12 (I n)) 9 g) (I fr), _, ?_, y3, n, rw, fr, se, hX', hM', hs, hP, ⟨m, m1, m2, m3, m4, m5⟩, n, rfl, ?_, by omega, by omega, fun _ => ⟨⟨fr, h5, rfl, ?_⟩, ⟨m, m1, ?_, ?_, ?_⟩, fun j hj => ?_, fun j hj => ?_⟩⟩
  · unfold mX10_image mX4_keep
    simp only [nm]
    rw [h4, x_size NF hX', Option.bind_some]
    have e : mJ9_min_7cf53 NF (I n) 10 = some (I n) := by
      unfold mJ9_min_7cf53 mJ9_min_7cf53_10
      rw [if_neg (show ¬ (10 : Int32) < I n by rw [show (10 : Int32) = I 10 from rfl, I_lt (by omega) (by omega) (by omega) (by omega)]; omega)]
    rw [e, Option.bind_some]
    show (mX4_keep_h16 NF b NF (siX u 12 (I n)) (I fr) (I ((0 : Nat) : Int))).bind _ = _
    rw [x2, Option.bind_some]
    show some (u.1 10, _) = _
    rw [h1]
  · rfl
  · exact hf
  · exact m2
  · exact m3
  · intro j hj
    have e : ∀ q, q < 24 → (keepX (sfX (siX u 12 (I n)) 9 g) (I fr)).2 11 q = u.2 7 q := fun q hq => cpy_lt hq
    rw [e _ (by omega), e _ (by omega), e _ (by omega), e _ (by omega)]
    exact m5 j hj
  · have e : ∀ q, q < 24 → (keepX (sfX (siX u 12 (I n)) 9 g) (I fr)).2 11 q = u.2 7 q := fun q hq => cpy_lt hq
    rw [e j hj, m4 j hj]
    exact (y2 j hj).symm
  · have := hs j (by omega) hj
    exact ⟨rowk rw j 8, x1 j hj, y1 j hj, this.1, this.2⟩
