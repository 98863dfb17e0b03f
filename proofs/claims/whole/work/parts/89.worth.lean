theorem or_0 (x : Int32) : x ||| I 0 = x := tb_ext (fun i _ => by
  rw [tb_or, show I 0 = (0 : Int32) from rfl, tb_zero, Bool.or_false])
theorem strand_l (N : Nat) {u : USt} {b : BSt} {v : MSt} {A : Int → Int} (hA : Aok A 3000) (uA : Crow (u.2 24) 0 A) (vA : Arow (v.2.1 10) A) : ∀ (d f f' : Nat) (j : Int) (x : Int32), d < f → d < f' → (d : Int) = 8 - j → 0 ≤ j → ∃ r : Int32, mX10_stranded_h98 N b f u x (I j) = some (r, u) ∧ mM_stranded_h73 N f' v x (I j) = some (r, v) := by
  intro d
  induction d with
  | zero =>
    intro f f' j x hf hf' hd hj
    obtain ⟨f, rfl⟩ : ∃ g, f = g + 1 := ⟨f - 1, by omega⟩
    obtain ⟨f', rfl⟩ : ∃ g, f' = g + 1 := ⟨f' - 1, by omega⟩
    show ∃ r : Int32, mX10_stranded_98 N b _ _ _ _ = _ ∧ mM_stranded_73 N _ _ _ _ = _
    unfold mX10_stranded_98 mM_stranded_73
    rw [show (8 : Int32) = I 8 from rfl, if_pos (by rw [I_le (by omega) (by omega) (by omega) (by omega)]; omega), if_pos (by rw [I_le (by omega) (by omega) (by omega) (by omega)]; omega)]
    exact ⟨_, rfl, rfl⟩
  | succ d ih =>
    intro f f' j x hf hf' hd hj
    obtain ⟨f, rfl⟩ : ∃ g, f = g + 1 := ⟨f - 1, by omega⟩
    obtain ⟨f', rfl⟩ : ∃ g, f' = g + 1 := ⟨f' - 1, by omega⟩
    show ∃ r : Int32, mX10_stranded_98 N b _ _ _ _ = _ ∧ mM_stranded_73 N _ _ _ _ = _
    unfold mX10_stranded_98 mX10_stranded_126 mM_stranded_73 mM_stranded_102
    simp only [nm]
    have a1 := hA j hj (by omega)
    have c1 : u.2 24 j.toNat = I (cv 0 (A j)) := uA j hj (by omega)
    have c3 := vA j hj (by omega)
    have k1 := cv_b (s := 0) (x := A j) (by omega) (by omega) (by omega)
    have l1 := cv_nv (s := 0) (x := A j) (by omega) (by omega) (by omega)
    simp (disch := omega) only [I_lit, I_le, I_add, rdX_24, rd_I, c1, c3, I_eq, l1, sh_eq, or_0]
    rw [if_neg (show ¬ 8 ≤ j by omega), if_neg (show ¬ 8 ≤ j by omega)]
    by_cases q : A j = 100000
    · rw [if_neg (not_not_intro q), if_neg (not_not_intro q)]
      exact ih f f' (j + 1) _ (by omega) (by omega) (by omega) (by omega)
    · rw [if_pos q, if_pos q]
      exact ih f f' (j + 1) _ (by omega) (by omega) (by omega) (by omega)
theorem pu_stranded : Pu_stranded InvX := by
  have hbig := NF_big
  intro u b v a1 a2 a3 h
  have hh := h
  obtain ⟨k, rfl, k1, k2⟩ := I_ex a1
  obtain ⟨e, rfl, e1, e2⟩ := I_ex a2
  obtain ⟨x, rfl, x1, x2⟩ := I_ex a3
  obtain ⟨n, rw, fr, se, hX, hM, hs, hP, hN, hG⟩ := h
  have hX' := hX
  have hM' := hM
  obtain ⟨h1, h2, h3, h4, h5, h6⟩ := hX
  obtain ⟨hr, hf, hf2, hn, hn1, hn2, hwo, hsk, hse, hwo2, hsk2, hse2, hv⟩ := hM
  unfold mX10_stranded mX10_stranded_15 mX10_stranded_44 mM_stranded mM_stranded_15
  simp only [nm]
  rw [x_isBridge NF h1 h2 h3 k1 k2, m_isBridge NF hn hn1 hn2 k1 k2, x_isIslet NF x1 x2, m_isIslet NF x1 x2]
  simp (disch := omega) only [Option.bind_some, I_lit, bo_0, Decidable.not_not, I_neg, I_mul, I_add]
  by_cases q1 : 0 ≤ k ∧ k < n
  · rw [if_neg (not_not_intro q1), if_neg (not_not_intro q1)]
    by_cases q2 : 0 ≤ x ∧ x < 8
    · rw [if_pos q2, if_pos q2]
      have hb := hX'.row q1.1 q1.2
      have hv2 := hb.rv.2.2.1
      have e2' : rw (10 * k + 2) = rowk rw k 2 := rfl
      rw [x_get NF hX' q1.1 q1.2, Option.bind_some, hb.skip, x_ends NF hb, Option.bind_some]
      simp (disch := omega) only [rd_I, hr (10 * k + 2) (by omega) (by omega), e2', I_sub, I_64, Lg_lit, m_in, Option.bind_some, bo_0, Decidable.not_not, I_lt]
      by_cases q3 : 0 ≤ e ∧ e < rowk rw k 2
      · rw [if_neg (by omega), if_pos (by omega), if_pos (by omega)]
        have hM2 : Mst (siM (siM v 8 (I k)) 9 (I e)) rw n fr (-1) k e := ⟨hr, hf, hf2, hn, hn1, hn2, hwo, rfl, rfl, hwo2, ⟨by omega, by omega⟩, fun _ => q3, hv⟩
        obtain ⟨u6, t1, t2, t3⟩ := x_openTable (s := 0) (sp := 400) (p := 1) (w := 1) se hX' hs (by omega) (by omega) (by omega) (by omega) (by omega) (by omega) (by omega) (by omega)
        have hend := hb.rv.2.2.2.1 e q3.1 q3.2
        have hpv := hb.rv.2.1
        have h9 := hb.rv.2.2.2.2.2.2.2
        rw [t1, Option.bind_some, hb.f0, xendV NF hb, xend NF hb (by omega) (by omega), if_pos q3, Option.bind_some]
        obtain ⟨u10, s1, s2, s3⟩ := x_layAlways NF (by omega) (u := u6) (s := 0) (sp := 400) (n := n) (k := k) (pv := rowk rw k 1) (e := rowk rw k (3 + e)) t3.2.2.2.1 q1.1 q1.2 h3 (by omega) hpv.1 (by omega) (by omega) (by omega)
        have hT : Tab u10 0 400 1 n n (Pw rw) (Lw (-1) k e fr rw 1 1) := by
          refine t3.lay s2 q1.1 (P' := Pw rw) (L' := Lw (-1) k e fr rw 1 1) (s3.congr (fun T => ?_)) n (.inl (by omega)) (fun i i1 i2 i3 => ⟨rfl, ?_⟩)
          · have ej : jnW (-1) k e fr (rowk rw k) k T = rowk rw k (3 + e) := by
              unfold jnW
              rw [if_neg (by omega), if_pos rfl]
            have el : lsW (-1) k e fr (rowk rw k) k T = 999 := by
              unfold lsW
              rw [ej, if_neg (by omega), if_pos (Or.inl rfl)]
            unfold Lw
            rw [if_pos ⟨by omega, by rw [el]; omega⟩, ej]
          · funext T
            unfold Lw lsW
            have ej : jnW (-1) k e fr (rowk rw i) i T = jnW (-1) (-1) se fr (rowk rw i) i T := by
              unfold jnW
              simp only [show ¬ i = k by omega, show ¬ i = -1 by omega, if_false]
            rw [ej]
            have eo : (i = k ∨ rowk rw i 0 = 3) = (i = -1 ∨ rowk rw i 0 = 3) := by
              simp only [eq_iff_iff]
              omega
            simp only [eo]
        obtain ⟨g1, f1, f2⟩ := x_reach (wd := 255) (a := 24) (.inl rfl) hT (Net_w hM2) hn1 hn2 (by omega) (by omega) (by omega) (by omega) (by omega) (b0 := 0) (by omega) (by omega) q2.1 q2.2 P8_255
        obtain ⟨g2, r1, r2⟩ := m_layThere hM2 (m := 0) (p := 1) (w := 1) (by omega) (by omega) (by omega) (by omega) (by omega) (by omega) q2.1 q2.2
        rw [s1, Option.bind_some, show I 255 = (255 : Int32) from rfl, f2, Option.bind_some, r2, Option.bind_some]
        obtain ⟨r, c1, c2⟩ := strand_l NF (u := sfX u10 24 g1) (b := b) (v := siM (sfM (siM (siM v 8 (I k)) 9 (I e)) 10 g2) 8 (I (-1))) (A := arr 1 (Pw rw) (Lw (-1) k e fr rw 1 1) n.toNat x 0) ((arr_ok (by omega) (by omega) (by omega)).mono (by omega)) (fun i i1 i2 => by
            have := f1 i i1 i2 (tb_255' i1 i2)
            rw [Int.add_zero] at this
            exact this) (fun i i1 i2 => r1 i i1 i2) 8 NF NF 0 (I 0) (by omega) (by omega) (by omega) (by omega)
        refine ⟨r, _, _, c1, c2, hh.keep (t2.trans (s2.kx.trans (KX_sf _ _ (by omega)))) ⟨fun j hj => ?_, fun a ha => vu_ne (by omega)⟩⟩
        show va_up (va_up (va_up v.1 8 (I k)) 9 (I e)) 8 (I (-1)) j = v.1 j
        by_cases q : j = 8
        · subst q
          rw [vu_eq, hsk]
        · rw [vu_ne q, vu_ne (by omega), vu_ne q]
      · rw [if_neg (show ¬ (0 ≤ e ∧ e ≤ rowk rw k 2 - 1) by omega)]
        refine ⟨I (-102), u, v, ?_, rfl, hh⟩
        (repeat' split) <;> first | rfl | (exfalso; omega)
    · rw [if_neg q2, if_neg q2]
      exact ⟨_, _, _, rfl, rfl, hh⟩
  · rw [if_pos q1, if_pos q1]
    exact ⟨_, _, _, rfl, rfl, hh⟩
def smA (A : Int → Int) : Nat → Int → Int
  | 0, _ => 0
  | d + 1, j => (if A j = 100000 then 1000 else A j) + smA A d (j + 1)
def smF (p : Int) (P : Int → Int) (L : Int → Int → Int) (n : Nat) : Nat → Int → Int
  | 0, _ => 0
  | d + 1, f => smA (arr p P L n f 0) 8 0 + smF p P L n d (f + 1)
theorem x_ways28 (N : Nat) {u : USt} {x2 : Int} {A : Int → Int} (hA : Aok A 3000) (uA : Crow (u.2 24) 0 A) (k4 : USt → Int32 → Int32 → Option (Int32 × USt)) : ∀ (d f : Nat) (j c : Int), d < f → (d : Int) = 8 - j → 0 ≤ j → mX10_waysTogether_h28 N k4 f u (I c) (I x2) (I j) = k4 u (I (c + smA A d j)) (I (x2 + 1)) := by
  intro d
  induction d with
  | zero =>
    intro f j c hf hd hj
    obtain ⟨f, rfl⟩ : ∃ g, f = g + 1 := ⟨f - 1, by omega⟩
    show mX10_waysTogether_28 N _ _ _ _ _ _ = _
    unfold mX10_waysTogether_28
    rw [show (8 : Int32) = I 8 from rfl, if_pos (by rw [I_le (by omega) (by omega) (by omega) (by omega)]; omega), show I x2 + 1 = I (x2 + 1) from I_add x2 1]
    unfold smA
    rw [Int.add_zero]
  | succ d ih =>
    intro f j c hf hd hj
    obtain ⟨f, rfl⟩ : ∃ g, f = g + 1 := ⟨f - 1, by omega⟩
    show mX10_waysTogether_28 N _ _ _ _ _ _ = _
    unfold mX10_waysTogether_28 mX10_waysTogether_58
    simp only [nm]
    have a1 := hA j hj (by omega)
    have c1 : u.2 24 j.toNat = I (cv 0 (A j)) := uA j hj (by omega)
    have k1 := cv_b (s := 0) (x := A j) (by omega) (by omega) (by omega)
    have l1 := cv_nv (s := 0) (x := A j) (by omega) (by omega) (by omega)
    simp (disch := omega) only [I_lit, I_le, I_add, rdX_24, c1, I_eq, l1]
    rw [if_neg (by omega)]
    have e : smA A (d + 1) j = (if A j = 100000 then 1000 else A j) + smA A d (j + 1) := rfl
    rw [e]
    by_cases q : A j = 100000
    · rw [if_neg (not_not_intro q), if_pos q, ih f (j + 1) _ (by omega) (by omega) (by omega), Int.add_assoc]
    · have e2 : cv 0 (A j) = A j := by
        unfold cv
        rw [if_neg q]
        omega
      rw [if_pos q, if_neg q, e2, ih f (j + 1) _ (by omega) (by omega) (by omega), Int.add_assoc]
theorem m_all24 (N : Nat) {v : MSt} {x1 x2 : Int32} {x4 : Int} {A : Int → Int} (hA : Aok A 3000) (vA : Arow (v.2.1 10) A) (k5 : MSt → Int32 → Int32 → Int32 → Int32 → Option (Int32 × MSt)) : ∀ (d f : Nat) (j c : Int), d < f → (d : Int) = 8 - j → 0 ≤ j → mM_allSoonest_h24 N k5 f v x1 x2 (I c) (I x4) (I j) = k5 v x1 x2 (I (c + smA A d j)) (I (x4 + 1)) := by
  intro d
  induction d with
  | zero =>
    intro f j c hf hd hj
    obtain ⟨f, rfl⟩ : ∃ g, f = g + 1 := ⟨f - 1, by omega⟩
    show mM_allSoonest_24 N _ _ _ _ _ _ _ _ = _
    unfold mM_allSoonest_24
    rw [show (8 : Int32) = I 8 from rfl, if_pos (by rw [I_le (by omega) (by omega) (by omega) (by omega)]; omega), show I x4 + 1 = I (x4 + 1) from I_add x4 1]
    unfold smA
    rw [Int.add_zero]
  | succ d ih =>
    intro f j c hf hd hj
    obtain ⟨f, rfl⟩ : ∃ g, f = g + 1 := ⟨f - 1, by omega⟩
    show mM_allSoonest_24 N _ _ _ _ _ _ _ _ = _
    unfold mM_allSoonest_24 mM_allSoonest_57
    simp only [nm]
    have a1 := hA j hj (by omega)
    have c3 := vA j hj (by omega)
    simp (disch := omega) only [I_lit, I_le, I_add, rd_I, c3, I_eq]
    rw [if_neg (by omega)]
    have e : smA A (d + 1) j = (if A j = 100000 then 1000 else A j) + smA A d (j + 1) := rfl
    rw [e]
    by_cases q : A j = 100000
    · rw [if_neg (not_not_intro q), if_pos q, ih f (j + 1) _ (by omega) (by omega) (by omega), Int.add_assoc]
    · rw [if_pos q, if_neg q, ih f (j + 1) _ (by omega) (by omega) (by omega), Int.add_assoc]
theorem x_ways {p n sp : Int} {P : Int → Int} {L : Int → Int → Int} (hnet : Net n P L) (n1 : 0 ≤ n) (n2 : n ≤ 10) (p1 : 1 ≤ p) (p2 : p ≤ 9) (sp1 : 400 ≤ sp) (sp2 : sp ≤ 999) : ∀ (d f : Nat) (j c : Int) (u : USt), d < f → (d : Int) = 8 - j → 0 ≤ j → Tab u 0 sp p n n P L → ∃ u', mX10_waysTogether_h4 NF f u (I c) (I j) = some (I (c + smF p P L n.toNat d j), u') ∧ KX u u' ∧ Tab u' 0 sp p n n P L := by
  have hb := NF_big
  intro d
  induction d with
  | zero =>
    intro f j c u hf hd hj hT
    obtain ⟨f, rfl⟩ : ∃ g, f = g + 1 := ⟨f - 1, by omega⟩
    refine ⟨u, ?_, KX.refl u, hT⟩
    show mX10_waysTogether_4 NF _ _ _ _ = _
    unfold mX10_waysTogether_4
    rw [show (8 : Int32) = I 8 from rfl, if_pos (by rw [I_le (by omega) (by omega) (by omega) (by omega)]; omega)]
    unfold smF
    rw [Int.add_zero]
  | succ d ih =>
    intro f j c u hf hd hj hT
    obtain ⟨f, rfl⟩ : ∃ g, f = g + 1 := ⟨f - 1, by omega⟩
    obtain ⟨g1, f1, f2⟩ := x_reach (wd := 255) (a := 24) (.inl rfl) hT hnet n1 n2 (by omega) (by omega) sp2 p1 p2 (b0 := 0) (by omega) (by omega) hj (by omega) P8_255
    have hT2 : Tab (sfX u 24 g1) 0 sp p n n P L := hT.keep n2 rfl (fun c hc => vu_ne (by omega))
    have e24 : (sfX u 24 g1).2 24 = g1 := sfX_g _ _ _
    have hc : Crow ((sfX u 24 g1).2 24) 0 (arr p P L n.toNat j 0) := by
      rw [e24]
      exact fun i i1 i2 => f1 i i1 i2 (tb_255' i1 i2)
    obtain ⟨u', i1, i2, i3⟩ := ih f (j + 1) (c + smA (arr p P L n.toNat j 0) 8 0) (sfX u 24 g1) (by omega) (by omega) (by omega) hT2
    refine ⟨u', ?_, (KX_sf _ _ (by omega)).trans i2, i3⟩
    show mX10_waysTogether_4 NF _ _ _ _ = _
    unfold mX10_waysTogether_4
    rw [show (8 : Int32) = I 8 from rfl, if_neg (by rw [I_le (by omega) (by omega) (by omega) (by omega)]; omega), show (0 : Int32) = I 0 from rfl, f2, Option.bind_some, x_ways28 NF ((arr_ok (by omega) p1 p2).mono (by omega)) hc _ 8 NF 0 c (by omega) (by omega) (by omega), i1]
    have e : smF p P L n.toNat (d + 1) j = smA (arr p P L n.toNat j 0) 8 0 + smF p P L n.toNat d (j + 1) := rfl
    rw [e, Int.add_assoc]
theorem m_all {rw : Int → Int} {n fr wo sk se p w : Int} (p1 : 1 ≤ p) (p2 : p ≤ 9) (w1 : 1 ≤ w) (w2 : w ≤ 9) : ∀ (d f : Nat) (j c : Int) (v : MSt), d < f → (d : Int) = 8 - j → 0 ≤ j → Mst v rw n fr wo sk se → ∃ g, mM_allSoonest_h5 NF f v (I p) (I w) (I c) (I j) = some (I (c + smF p (Pw rw) (Lw wo sk se fr rw p w) n.toNat d j), sfM v 10 g) := by
  have hb := NF_big
  intro d
  induction d with
  | zero =>
    intro f j c v hf hd hj hT
    obtain ⟨f, rfl⟩ : ∃ g, f = g + 1 := ⟨f - 1, by omega⟩
    refine ⟨v.2.1 10, ?_⟩
    show mM_allSoonest_5 NF _ _ _ _ _ _ = _
    unfold mM_allSoonest_5
    rw [show (8 : Int32) = I 8 from rfl, if_pos (by rw [I_le (by omega) (by omega) (by omega) (by omega)]; omega), sfM_self]
    unfold smF
    rw [Int.add_zero]
  | succ d ih =>
    intro f j c v hf hd hj hT
    obtain ⟨f, rfl⟩ : ∃ g, f = g + 1 := ⟨f - 1, by omega⟩
    obtain ⟨g1, f1, f2⟩ := m_layThere hT (m := 0) p1 p2 w1 w2 (by omega) (by omega) hj (by omega)
    have hT2 : Mst (sfM v 10 g1) rw n fr wo sk se := hT
    have e10 : (sfM v 10 g1).2.1 10 = g1 := sfM_g _ _ _
    have hc : Arow ((sfM v 10 g1).2.1 10) (arr p (Pw rw) (Lw wo sk se fr rw p w) n.toNat j 0) := by
      rw [e10]
      exact f1
    obtain ⟨g2, i1⟩ := ih f (j + 1) (c + smA (arr p (Pw rw) (Lw wo sk se fr rw p w) n.toNat j 0) 8 0) (sfM v 10 g1) (by omega) (by omega) (by omega) hT2
    refine ⟨g2, ?_⟩
    show mM_allSoonest_5 NF _ _ _ _ _ _ = _
    unfold mM_allSoonest_5
    rw [show (8 : Int32) = I 8 from rfl, if_neg (by rw [I_le (by omega) (by omega) (by omega) (by omega)]; omega), show (0 : Int32) = I 0 from rfl, f2, Option.bind_some, m_all24 NF ((arr_ok (by omega) p1 p2).mono (by omega)) hc _ 8 NF 0 c (by omega) (by omega) (by omega), i1]
    have e : smF p (Pw rw) (Lw wo sk se fr rw p w) n.toNat (d + 1) j = smA (arr p (Pw rw) (Lw wo sk se fr rw p w) n.toNat j 0) 8 0 + smF p (Pw rw) (Lw wo sk se fr rw p w) n.toNat d (j + 1) := rfl
    rw [e, Int.add_assoc]
    congr 2
    unfold sfM
    simp only [va_up_2]
theorem pu_worth : Pu_worth InvX := by
  have hbig := NF_big
  intro u b v a1 a2 a3 h
  have hh := h
  obtain ⟨k, rfl, k1, k2⟩ := I_ex a1
  obtain ⟨p, rfl, p1, p2⟩ := I_ex a2
  obtain ⟨w, rfl, w1, w2⟩ := I_ex a3
  obtain ⟨n, rw, fr, se, hX, hM, hs, hP, hN, hG⟩ := h
  have hX' := hX
  have hM' := hM
  obtain ⟨h1, h2, h3, h4, h5, h6⟩ := hX
  obtain ⟨hr, hf, hf2, hn, hn1, hn2, hwo, hsk, hse, hwo2, hsk2, hse2, hv⟩ := hM
  unfold mX10_worth mM_worth mX10_waysTogether mM_allSoonest
  simp only [nm]
  rw [x_isBridge NF h1 h2 h3 k1 k2, m_isBridge NF hn hn1 hn2 k1 k2, x_isCarrier NF w1 w2 p1 p2, m_isCarrier NF w1 w2 p1 p2]
  simp only [Option.bind_some, I_lit, bo_0, Decidable.not_not, I_neg]
  by_cases q1 : 0 ≤ k ∧ k < n
  · rw [if_pos q1, if_pos q1]
    by_cases q4 : (1 ≤ p ∧ p ≤ 9) ∧ 1 ≤ w ∧ w ≤ 9
    · rw [if_pos q4, if_pos q4]
      obtain ⟨u6, t1, t2, t3⟩ := x_openTable (s := 0) (sp := 400) (p := p) (w := w) se hX' hs (by omega) (by omega) (by omega) (by omega) q4.1.1 q4.1.2 q4.2.1 q4.2.2
      obtain ⟨u7, c1, c2, c3⟩ := x_ways (sp := 400) (Net_w hM') hn1 hn2 q4.1.1 q4.1.2 (by omega) (by omega) 8 NF 0 0 u6 (by omega) (by omega) (by omega) t3
      obtain ⟨u8, s1, s2, s3⟩ := x_layNothing NF (by omega) (u := u7) (s := 0) (sp := 400) (n := n) (k := k) (Pw rw k) c3.2.2.2.1 q1.1 q1.2 h3 (by omega)
      obtain ⟨g1, r1⟩ := m_all q4.1.1 q4.1.2 q4.2.1 q4.2.2 8 NF 0 0 v (by omega) (by omega) (by omega) hM'
      have hM2 : Mst (siM (sfM v 10 g1) 7 (I k)) rw n fr k (-1) se := ⟨hr, hf, hf2, hn, hn1, hn2, rfl, hsk, hse, ⟨by omega, by omega⟩, hsk2, hse2, hv⟩
      have hT : Tab u8 0 400 p n n (Pw rw) (Lw k (-1) se fr rw p w) := by
        refine c3.lay s2 q1.1 (P' := Pw rw) (L' := Lw k (-1) se fr rw p w) (s3.congr (fun T => ?_)) n (.inl (by omega)) (fun i i1 i2 i3 => ⟨rfl, ?_⟩)
        · have ej : jnW k (-1) se fr (rowk rw k) k T = -1 := by
            unfold jnW
            rw [if_pos rfl]
          unfold Lw lsW
          rw [ej, if_pos rfl, if_neg (by omega)]
        · funext T
          unfold Lw lsW
          have ej : jnW k (-1) se fr (rowk rw i) i T = jnW (-1) (-1) se fr (rowk rw i) i T := by
            unfold jnW
            simp only [show ¬ i = k by omega, show ¬ i = -1 by omega, if_false]
          rw [ej]
      obtain ⟨u10, d1, d2, d3⟩ := x_ways (sp := 400) (Net_w hM2) hn1 hn2 q4.1.1 q4.1.2 (by omega) (by omega) 8 NF 0 0 u8 (by omega) (by omega) (by omega) hT
      obtain ⟨g2, r2⟩ := m_all q4.1.1 q4.1.2 q4.2.1 q4.2.2 8 NF 0 0 _ (by omega) (by omega) (by omega) hM2
      rw [t1, Option.bind_some, c1, bp_some, s1, Option.bind_some, d1, bp_some, r1, bp_some, r2, bp_some]
      refine ⟨_, _, _, rfl, rfl, hh.keep (t2.trans (c2.trans (s2.kx.trans d2))) ⟨fun j hj => ?_, fun a ha => ?_⟩⟩
      · show va_up (va_up v.1 7 (I k)) 7 (I (-1)) j = v.1 j
        by_cases q : j = 7
        · subst q
          rw [vu_eq, hwo]
        · rw [vu_ne q, vu_ne q]
      · show va_up (va_up v.2.1 10 g1) 10 g2 a = v.2.1 a
        rw [vu_ne (by omega), vu_ne (by omega)]
    · rw [if_neg q4, if_neg q4]
      exact ⟨_, _, _, rfl, rfl, hh⟩
  · rw [if_neg q1, if_neg q1]
    exact ⟨_, _, _, rfl, rfl, hh⟩
