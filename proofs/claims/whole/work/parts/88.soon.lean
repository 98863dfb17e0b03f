theorem sfX_g (u : USt) (k : Nat) (g : Nat → Int32) : (sfX u k g).2 k = g := vu_eq _ _ _
theorem sfX_ne {u : USt} {k j : Nat} {g : Nat → Int32} (h : j ≠ k) : (sfX u k g).2 j = u.2 j := vu_ne h
theorem KX_sf (u : USt) {a : Nat} (g : Nat → Int32) (ha : 14 ≤ a) : KX u (sfX u a g) := ⟨fun _ _ => rfl, fun c q => vu_ne (by omega)⟩
theorem KM_sf (v : MSt) {a : Nat} (g : Nat → Int32) (ha : a ≠ 0 ∧ a ≠ 5 ∧ a ≠ 22 ∧ a ≠ 26 ∧ a ≠ 27) : KM v (sfM v a g) := ⟨fun _ _ => rfl, fun c q => sfM_ne (by omega)⟩
theorem pu_soonest : Pu_soonest InvX := by
  intro u b v a1 a2 a3 a4 a5 h
  have hh := h
  obtain ⟨x, rfl, x1, x2⟩ := I_ex a1
  obtain ⟨y, rfl, y1, y2⟩ := I_ex a2
  obtain ⟨m, rfl, m1, m2⟩ := I_ex a3
  obtain ⟨p, rfl, p1, p2⟩ := I_ex a4
  obtain ⟨w, rfl, w1, w2⟩ := I_ex a5
  obtain ⟨n, rw, fr, se, hX, hM, hs, hP, hN, hG⟩ := h
  unfold mX10_soonest mX10_soonest_14 mX10_soonest_34 mX10_soonest_88 mM_soonest mM_soonest_14 mM_soonest_48 mM_soonest_50
  rw [x_isIslet NF x1 x2, x_isIslet NF y1 y2, x_isMinute NF m1 m2, x_isCarrier NF w1 w2 p1 p2, m_isIslet NF x1 x2, m_isIslet NF y1 y2, m_isMinute NF m1 m2, m_isCarrier NF w1 w2 p1 p2]
  simp only [Option.bind_some, I_lit, bo_0, Decidable.not_not, sh_eq, I_neg]
  by_cases q1 : 0 ≤ x ∧ x < 8
  · rw [if_neg (not_not_intro q1), if_neg (not_not_intro q1)]
    by_cases q2 : 0 ≤ y ∧ y < 8
    · rw [if_pos q2, if_pos q2]
      by_cases q3 : 0 ≤ m ∧ m ≤ 999
      · rw [if_neg (not_not_intro q3), if_neg (not_not_intro q3)]
        by_cases q4 : (1 ≤ p ∧ p ≤ 9) ∧ 1 ≤ w ∧ w ≤ 9
        · rw [if_pos q4, if_neg (not_not_intro q4)]
          obtain ⟨u6, e1, e2, e3⟩ := x_openTable (sp := 400) (w := w) se hX hs q3.1 q3.2 (by omega) (by omega) q4.1.1 q4.1.2 q4.2.1 q4.2.2
          obtain ⟨g', f1, f2⟩ := x_reach (wd := sh y) (a := 24) (.inl rfl) e3 (Net_w hM) hX.2.1 hX.2.2.1 q3.1 q3.2 (by omega) q4.1.1 q4.1.2 (b0 := 0) (by omega) (by omega) q1.1 q1.2 (sh_p8 q2.1 q2.2)
          obtain ⟨g2, f3⟩ := m_soonestOf hM q4.1.1 q4.1.2 q4.2.1 q4.2.2 q3.1 q3.2 q1.1 q1.2 q2.1 q2.2
          have f4 := f1 y q2.1 q2.2 (by rw [tb_sh q2.1 q2.2]; simp)
          have e24 : (sfX u6 24 g').2 24 = g' := sfX_g _ _ _
          have hk := arr_ok (P := Pw rw) (L := Lw (-1) (-1) se fr rw p w) (n := n.toNat) (f := x) q3.1 q4.1.1 q4.1.2 y q2.1 q2.2
          rw [Int.add_zero] at f4
          rw [e1, Option.bind_some, f2, Option.bind_some, f3, bp_some]
          simp only [rdX_24 q2.1 q2.2, vu_eq, f4]
          unfold soo
          generalize arr p (Pw rw) (Lw (-1) (-1) se fr rw p w) n.toNat x m y = z at *
          refine ⟨I (if z = 100000 then -1 else z), sfX u6 24 g', sfM v 10 g2, ?_, rfl, hh.keep (e2.trans (KX_sf _ _ (by omega))) (KM_sf _ _ (by omega))⟩
          unfold cv
          by_cases qz : z = 100000
          · simp only [if_pos qz, not_true_eq_false, if_false]
          · simp only [if_neg qz]
            rw [if_pos (by rw [I_eq (by omega) (by omega) (by omega) (by omega)]; omega), I_add, show m + (z - m) = z by omega]
        · rw [if_neg q4, if_pos q4]
          exact ⟨_, _, _, rfl, rfl, hh⟩
      · rw [if_pos q3, if_pos q3]
        exact ⟨_, _, _, rfl, rfl, hh⟩
    · rw [if_neg q2, if_neg q2]
      exact ⟨_, _, _, rfl, rfl, hh⟩
  · rw [if_pos q1, if_pos q1]
    exact ⟨_, _, _, rfl, rfl, hh⟩
theorem cv_lt {s x y : Int} (hx : x = 100000 ∨ (0 ≤ x ∧ x ≤ 3000)) (hy : y = 100000 ∨ (0 ≤ y ∧ y ≤ 3000)) (s1 : 0 ≤ s) (s2 : s ≤ 1000) : (cv s x < cv s y) = (x < y) := by
  unfold cv
  simp only [eq_iff_iff]
  split <;> split <;> omega
theorem meet_l (N : Nat) {u : USt} {b : BSt} {v : MSt} {m wh : Int} {A B : Int → Int} (hA : Aok A 3000) (hB : Aok B 3000) (uA : Crow (u.2 24) m A) (uB : Crow (u.2 25) m B) (vA : Arow (v.2.1 20) A) (vB : Arow (v.2.1 10) B) (m1 : 0 ≤ m) (m2 : m ≤ 999) (w1 : 0 ≤ wh) (w2 : wh ≤ 1) : ∀ (d f f' : Nat) (j pl lo : Int), d < f → d < f' → (d : Int) = 8 - j → 0 ≤ j → (lo = 100000 ∧ pl = -1 ∨ (0 ≤ lo ∧ lo ≤ 3000 ∧ 0 ≤ pl ∧ pl < 8)) → ∃ r : Int32, mX10_meeting_h102 N b f u (I m) (I wh) (I pl) (I (cv m lo)) (I j) = some (r, u) ∧ mM_meeting_h108 N f' v (I wh) (I pl) (I lo) (I j) = some (r, v) := by
  intro d
  induction d with
  | zero =>
    intro f f' j pl lo hf hf' hd hj hlo
    obtain ⟨f, rfl⟩ : ∃ g, f = g + 1 := ⟨f - 1, by omega⟩
    obtain ⟨f', rfl⟩ : ∃ g, f' = g + 1 := ⟨f' - 1, by omega⟩
    show ∃ r : Int32, mX10_meeting_102 N b _ _ _ _ _ _ _ = _ ∧ mM_meeting_108 N _ _ _ _ _ _ = _
    unfold mX10_meeting_102 mX10_meeting_171 mM_meeting_108 mM_meeting_200 mM_meeting_207
    simp (disch := omega) only [I_lit, I_le, I_neg, I_eq, I_add]
    rw [if_pos (show 8 ≤ j by omega), if_pos (show 8 ≤ j by omega)]
    by_cases q : pl = -1
    · rw [if_neg (not_not_intro q), if_pos q, q]
      exact ⟨_, rfl, rfl⟩
    · rw [if_pos q, if_neg q]
      have hq : lo ≠ 100000 := by omega
      unfold cv
      rw [if_neg hq, show m + (lo - m) = lo by omega]
      split
      · exact ⟨_, rfl, rfl⟩
      · exact ⟨_, rfl, rfl⟩
  | succ d ih =>
    intro f f' j pl lo hf hf' hd hj hlo
    obtain ⟨f, rfl⟩ : ∃ g, f = g + 1 := ⟨f - 1, by omega⟩
    obtain ⟨f', rfl⟩ : ∃ g, f' = g + 1 := ⟨f' - 1, by omega⟩
    show ∃ r : Int32, mX10_meeting_102 N b _ _ _ _ _ _ _ = _ ∧ mM_meeting_108 N _ _ _ _ _ _ = _
    unfold mX10_meeting_102 mX10_meeting_143 mM_meeting_108 mM_meeting_149 mM_meeting_165 mM_meeting_181
    have a1 := hA j hj (by omega)
    have b1 := hB j hj (by omega)
    have c1 : u.2 24 j.toNat = I (cv m (A j)) := uA j hj (by omega)
    have c2 : u.2 25 j.toNat = I (cv m (B j)) := uB j hj (by omega)
    have c3 := vA j hj (by omega)
    have c4 := vB j hj (by omega)
    have k1 := cv_b (s := m) (x := A j) (by omega) m1 (by omega)
    have k2 := cv_b (s := m) (x := B j) (by omega) m1 (by omega)
    have k3 := cv_b (s := m) (x := lo) (by omega) m1 (by omega)
    simp (disch := omega) only [I_lit, I_le, I_add, rdX_24, rdX_25, rd_I, c1, c2, c3, c4, mmax_eq, Option.bind_some, I_lt]
    rw [if_neg (show ¬ 8 ≤ j by omega), if_neg (show ¬ 8 ≤ j by omega)]
    have l1 := cv_lt (s := m) (x := A j) (y := B j) (by omega) (by omega) m1 (by omega)
    have l2 := cv_lt (s := m) (x := A j) (y := lo) (by omega) (by omega) m1 (by omega)
    have l3 := cv_lt (s := m) (x := B j) (y := lo) (by omega) (by omega) m1 (by omega)
    rw [eq_iff_iff] at l1 l2 l3
    by_cases q : A j < B j
    · rw [if_pos (l1.2 q), if_neg (show ¬ B j ≤ A j by omega)]
      simp (disch := omega) only [I_le]
      by_cases q2 : B j < lo
      · rw [if_neg (by omega), if_neg (by omega), if_neg (by omega)]
        exact ih f f' (j + 1) j (B j) (by omega) (by omega) (by omega) (by omega) (by omega)
      · rw [if_pos (by omega), if_pos (by omega), if_pos (by omega)]
        exact ih f f' (j + 1) pl lo (by omega) (by omega) (by omega) (by omega) hlo
    · rw [if_neg (fun h => q (l1.1 h)), if_pos (show B j ≤ A j by omega)]
      simp (disch := omega) only [I_le]
      by_cases q2 : A j < lo
      · rw [if_neg (by omega), if_neg (by omega), if_neg (by omega)]
        exact ih f f' (j + 1) j (A j) (by omega) (by omega) (by omega) (by omega) (by omega)
      · rw [if_pos (by omega), if_pos (by omega), if_pos (by omega)]
        exact ih f f' (j + 1) pl lo (by omega) (by omega) (by omega) (by omega) hlo
theorem m_meet61 (N : Nat) {x2 x3 x4 x5 x6 : Int32} {A : Int → Int} {v : MSt} (h10 : Arow (v.2.1 10) A) : ∀ (d f : Nat) (j : Int) (g : Nat → Int32), d < f → (d : Int) = 8 - j → 0 ≤ j → (∀ i : Int, 0 ≤ i → i < j → g i.toNat = I (A i)) → ∃ g', Arow g' A ∧ mM_meeting_h61 N f (sfM v 20 g) x2 x3 x4 x5 x6 (I j) = (mM_layThere N (sfM v 20 g') x2 x3 x4 x5).bind (fun r1 => mM_meeting_h108 N N r1 x6 (-1) 100000 0) := by
  intro d
  induction d with
  | zero =>
    intro f j g hf hd hj hg
    obtain ⟨f, rfl⟩ : ∃ g, f = g + 1 := ⟨f - 1, by omega⟩
    refine ⟨g, fun i i1 i2 => hg i i1 (by omega), ?_⟩
    show mM_meeting_61 N _ _ _ _ _ _ _ _ = _
    unfold mM_meeting_61
    rw [show (8 : Int32) = I 8 from rfl, if_pos (by rw [I_le (by omega) (by omega) (by omega) (by omega)]; omega)]
  | succ d ih =>
    intro f j g hf hd hj hg
    obtain ⟨f, rfl⟩ : ∃ g, f = g + 1 := ⟨f - 1, by omega⟩
    obtain ⟨g', h1, h2⟩ := ih f (j + 1) (upd g j.toNat (I (A j))) (by omega) (by omega) (by omega) (fun i i1 i2 => by
      by_cases q : i = j
      · subst q
        rw [ud_eq]
      · rw [ud_ne (by omega)]
        exact hg i i1 (by omega))
    refine ⟨g', h1, ?_⟩
    show mM_meeting_61 N _ _ _ _ _ _ _ _ = _
    unfold mM_meeting_61
    simp only [nm]
    have e10 : (sfM v 20 g).2.1 10 = v.2.1 10 := sfM_ne (by omega)
    rw [show (8 : Int32) = I 8 from rfl, if_neg (by rw [I_le (by omega) (by omega) (by omega) (by omega)]; omega), rd_I hj (by omega) (by omega), wr_I hj (by omega) (by omega), e10, h10 j hj (by omega), saM_sfM, show I j + 1 = I (j + 1) from I_add j 1]
    exact h2
theorem P8_255 : P8 255 := fun i hi => by
  by_cases q : i < 32
  · rw [tb_255 i q]
    exact decide_eq_false (by omega)
  · exact tb_ge _ (by omega)
theorem tb_255' {i : Int} (h1 : 0 ≤ i) (h2 : i < 8) : tb 255 i.toNat = true := by
  rw [tb_255 _ (by omega)]
  exact decide_eq_true (by omega)
theorem pu_meeting : Pu_meeting InvX := by
  have hbig := NF_big
  intro u b v a1 a2 a3 a4 a5 a6 h
  have hh := h
  obtain ⟨x, rfl, x1, x2⟩ := I_ex a1
  obtain ⟨y, rfl, y1, y2⟩ := I_ex a2
  obtain ⟨m, rfl, m1, m2⟩ := I_ex a3
  obtain ⟨p, rfl, p1, p2⟩ := I_ex a4
  obtain ⟨w, rfl, w1, w2⟩ := I_ex a5
  obtain ⟨o, rfl, o1, o2⟩ := I_ex a6
  obtain ⟨n, rw, fr, se, hX, hM, hs, hP, hN, hG⟩ := h
  unfold mX10_meeting mX10_meeting_14 mX10_meeting_45 mM_meeting mM_meeting_14 mM_meeting_45
  rw [x_isIslet NF x1 x2, x_isIslet NF y1 y2, x_isMinute NF m1 m2, x_isCarrier NF w1 w2 p1 p2, m_isIslet NF x1 x2, m_isIslet NF y1 y2, m_isMinute NF m1 m2, m_isCarrier NF w1 w2 p1 p2]
  simp (disch := omega) only [Option.bind_some, I_lit, bo_0, Decidable.not_not, sh_eq, I_neg, I_lt, I_le, I_64, Lg_lit, m_in]
  by_cases q1 : 0 ≤ x ∧ x < 8
  · rw [if_neg (not_not_intro q1), if_neg (not_not_intro q1)]
    by_cases q2 : 0 ≤ y ∧ y < 8
    · rw [if_pos q2, if_pos q2]
      by_cases q3 : 0 ≤ m ∧ m ≤ 999
      · rw [if_neg (not_not_intro q3), if_neg (not_not_intro q3)]
        by_cases q4 : (1 ≤ p ∧ p ≤ 9) ∧ 1 ≤ w ∧ w ≤ 9
        · rw [if_neg (not_not_intro q4), if_neg (not_not_intro q4)]
          by_cases q5 : 0 ≤ o ∧ o ≤ 1
          · rw [if_neg (by omega), if_pos (by omega), if_pos q5]
            obtain ⟨u6, e1, e2, e3⟩ := x_openTable (sp := 400) (w := w) se hX hs q3.1 q3.2 (by omega) (by omega) q4.1.1 q4.1.2 q4.2.1 q4.2.2
            obtain ⟨g1, f1, f2⟩ := x_reach (wd := 255) (a := 24) (.inl rfl) e3 (Net_w hM) hX.2.1 hX.2.2.1 q3.1 q3.2 (by omega) q4.1.1 q4.1.2 (b0 := 0) (by omega) (by omega) q1.1 q1.2 P8_255
            have e3' : Tab (sfX u6 24 g1) m 400 p n n (Pw rw) (Lw (-1) (-1) se fr rw p w) := e3.keep hX.2.2.1 rfl (fun c hc => vu_ne (by omega))
            obtain ⟨g2, f3, f4⟩ := x_reach (wd := 255) (a := 25) (.inr rfl) e3' (Net_w hM) hX.2.1 hX.2.2.1 q3.1 q3.2 (by omega) q4.1.1 q4.1.2 (b0 := 0) (by omega) (by omega) q2.1 q2.2 P8_255
            obtain ⟨h1, r1, r2⟩ := m_layThere hM q4.1.1 q4.1.2 q4.2.1 q4.2.2 q3.1 q3.2 q1.1 q1.2
            have h10 : Arow ((sfM v 10 h1).2.1 10) (arr p (Pw rw) (Lw (-1) (-1) se fr rw p w) n.toNat x m) := by
              rw [show (sfM v 10 h1).2.1 10 = h1 from sfM_g _ _ _]
              exact r1
            obtain ⟨h2, r3, r4⟩ := m_meet61 NF (x2 := I y) (x3 := I m) (x4 := I p) (x5 := I w) (x6 := I o) h10 8 NF 0 ((sfM v 10 h1).2.1 20) (by omega) (by omega) (by omega) (fun i i1 i2 => by omega)
            rw [sfM_self] at r4
            have hM2 : Mst (sfM (sfM v 10 h1) 20 h2) rw n fr (-1) (-1) se := hM
            obtain ⟨h3, r5, r6⟩ := m_layThere hM2 q4.1.1 q4.1.2 q4.2.1 q4.2.2 q3.1 q3.2 q2.1 q2.2
            rw [Int.add_zero] at f1 f3
            rw [e1, Option.bind_some, show I 255 = (255 : Int32) from rfl, f2, Option.bind_some, f4, Option.bind_some, r2, Option.bind_some, r4, r6, Option.bind_some]
            obtain ⟨r, s1, s2⟩ := meet_l NF (u := sfX (sfX u6 24 g1) 25 g2) (b := b) (v := sfM (sfM (sfM v 10 h1) 20 h2) 10 h3) (m := m) (wh := o) (A := arr p (Pw rw) (Lw (-1) (-1) se fr rw p w) n.toNat x m) (B := arr p (Pw rw) (Lw (-1) (-1) se fr rw p w) n.toNat y m) ((arr_ok q3.1 q4.1.1 q4.1.2).mono (by omega)) ((arr_ok q3.1 q4.1.1 q4.1.2).mono (by omega)) (fun i i1 i2 => f1 i i1 i2 (tb_255' i1 i2)) (fun i i1 i2 => f3 i i1 i2 (tb_255' i1 i2)) (fun i i1 i2 => r3 i i1 i2) (fun i i1 i2 => r5 i i1 i2) q3.1 q3.2 q5.1 q5.2 8 NF NF 0 (-1) 100000 (by omega) (by omega) (by omega) (by omega) (.inl ⟨rfl, rfl⟩)
            exact ⟨r, _, _, s1, s2, hh.keep (e2.trans ((KX_sf _ _ (by omega)).trans (KX_sf _ _ (by omega)))) ((KM_sf _ _ (by omega)).trans ((KM_sf _ _ (by omega)).trans (KM_sf _ _ (by omega))))⟩
          · rw [if_neg q5]
            refine ⟨I (-102), u, v, ?_, rfl, hh⟩
            (repeat' split) <;> first | rfl | (exfalso; omega)
        · rw [if_pos q4, if_pos q4]
          exact ⟨_, _, _, rfl, rfl, hh⟩
      · rw [if_pos q3, if_pos q3]
        exact ⟨_, _, _, rfl, rfl, hh⟩
    · rw [if_neg q2, if_neg q2]
      exact ⟨_, _, _, rfl, rfl, hh⟩
  · rw [if_pos q1, if_pos q1]
    exact ⟨_, _, _, rfl, rfl, hh⟩
