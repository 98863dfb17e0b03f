theorem set_l {b : BSt} {rw : Int → Int} {n fr se k x y : Int} {v0 : MSt} (hs : Shf rw n) (k1 : 0 ≤ k) (k2 : k < n) (hM0 : Mst v0 rw n fr (-1) (-1) se) (x1 : 0 ≤ x) (x2 : x < 8) (y1 : 0 ≤ y) (y2 : y < 8) : ∀ (e f f' : Nat) (d o bc lc br lr : Int) (u : USt) (v : MSt), e < f → e < f' → (e : Int) = 10 - d → 0 ≤ d → -1000 ≤ o → o ≤ 1000 → Xst u b rw n fr → Tab u 0 (60 - 1 + 400) 1 n n (Pw (rwS rw k o)) (Lw (-1) (-1) se fr (rwS rw k o) 1 1) → VS v0 v k o → (0 ≤ lc ∧ lc ≤ 2147483647) → (0 ≤ lr ∧ lr ≤ 100000) → ((bc = br ∧ lc = lr) ∨ (1000 < lc ∧ 1000 < lr ∧ e ≠ 0)) → ∃ (r : Int32) (u' : USt) (v' : MSt), mX10_set_h69 NF b f u (I k) (I x) (I y) k.toNat (I bc) (I lc) (I d) = some (r, u') ∧ mM_set_h65 NF f' v (I k) (I x) (I y) (I (rowk rw k 8)) (I br) (I lr) (I d) = some (r, v') ∧ KX u u' ∧ VS v0 v' k (rowk rw k 8) := by
  have hb := NF_big
  have n1 := hM0.2.2.2.2.1
  have n2 := hM0.2.2.2.2.2.1
  have hv := hM0.2.2.2.2.2.2.2.2.2.2.2.2 k k1 k2
  have h8 := hs k k1 k2
  have h9 := hv.2.2.2.2.2.2.2
  intro e
  induction e with
  | zero =>
    intro f f' d o bc lc br lr u v hf hf' hd hd1 o1 o2 hX hT hV hlc hlr hrel
    obtain ⟨f, rfl⟩ : ∃ g, f = g + 1 := ⟨f - 1, by omega⟩
    obtain ⟨f', rfl⟩ : ∃ g, f' = g + 1 := ⟨f' - 1, by omega⟩
    have hbr : bc = br := by omega
    refine ⟨I bc, u, _, ?_, ?_, KX.refl u, hV.set (rowk rw k 8)⟩
    · show mX10_set_69 NF b _ _ _ _ _ _ _ _ _ = _
      unfold mX10_set_69
      rw [show (9 : Int32) = I 9 from rfl, if_pos (by rw [I_lt (by omega) (by omega) (by omega) (by omega)]; omega)]
    · show mM_set_65 NF _ _ _ _ _ _ _ _ _ = _
      unfold mM_set_65
      simp only [nm]
      rw [show (10 : Int32) = I 10 from rfl, if_pos (by rw [I_le (by omega) (by omega) (by omega) (by omega)]; omega), I_mul, show (8 : Int32) = I 8 from rfl, I_add, wr_I (by omega) (by omega) (by omega), hbr]
  | succ e ih =>
    intro f f' d o bc lc br lr u v hf hf' hd hd1 o1 o2 hX hT hV hlc hlr hrel
    obtain ⟨f, rfl⟩ : ∃ g, f = g + 1 := ⟨f - 1, by omega⟩
    obtain ⟨f', rfl⟩ : ∃ g, f' = g + 1 := ⟨f' - 1, by omega⟩
    have hbk := hX.row k1 k2
    have hfr := hX.2.2.2.2.1
    have u19 := hX.2.2.2.1
    obtain ⟨t15, t16, t17, t18, -⟩ := id hT
    obtain ⟨u5, l1, l2, l3⟩ := x_lay NF (by omega) hbk hfr (o := d) t15 t16 t17 t18 k1 k2 n2 (by omega) (by omega) (by omega) (by omega) (by omega) (by omega) hd1 (by omega)
    have hvi : ∀ i, 0 ≤ i → i < n → Rv (rowk rw i) := hM0.2.2.2.2.2.2.2.2.2.2.2.2
    have hT5 : Tab u5 0 (60 - 1 + 400) 1 n n (Pw (rwS rw k d)) (Lw (-1) (-1) se fr (rwS rw k d) 1 1) := by
      refine hT.lay l2 k1 ?_ n (.inl (by omega)) (fun i i1 i2 i3 => ⟨?_, ?_⟩)
      · rw [Pw_S]
        refine l3.congr (fun T => ?_)
        rw [Lw_Sk k1 hv (by omega) (by omega) (by omega)]
      · rw [Pw_S, Pw_S]
      · funext T
        rw [Lw_So i1 i3 (hvi i i1 i2), Lw_So i1 i3 (hvi i i1 i2)]
    have hV2 := hV.set d
    have hM2 := hV2.mst hM0 k1 k2 (by omega) (by omega)
    obtain ⟨u6, v6, s', S, c1, c2, c3, c4, c5, c6, c7, c8, c9, c10⟩ := waits_of hT5 hM2 (by omega) (by omega) (by omega) (by omega) x1 x2 y1 y2 (by omega) (by omega)
    have hl := lw_b c1 (60 : Int).toNat 0 0 (by omega) (by omega) (by omega) (by omega)
    have hX6 : Xst u6 b rw n fr := hX.keep (l2.kx.trans c3.kx)
    have hT6 := c3.tab hT5 n2
    have hV6 := hV2.vw c7
    have e19 : ∀ q : Int, (-1 ≤ q ∧ q ≤ 400) → ((¬ I q = (-1 : Int32)) = ¬ q = -1) := fun q hq => by
      rw [show (-1 : Int32) = I (-1) from rfl, I_eq (by omega) (by omega) (by omega) (by omega)]
    have X : mX10_set_h69 NF b (f + 1) u (I k) (I x) (I y) k.toNat (I bc) (I lc) (I d) = if lc ≤ (if lw S (60 : Int).toNat 0 0 = -1 then 1000 else lw S (60 : Int).toNat 0 0) then mX10_set_h69 NF b f u6 (I k) (I x) (I y) k.toNat (I bc) (I lc) (I (d + 1)) else mX10_set_h69 NF b f u6 (I k) (I x) (I y) k.toNat (I d) (I (if lw S (60 : Int).toNat 0 0 = -1 then 1000 else lw S (60 : Int).toNat 0 0)) (I (d + 1)) := by
      show mX10_set_69 NF b _ _ _ _ _ _ _ _ _ = _
      unfold mX10_set_69 mX10_set_123 mX10_set_138
      simp only [nm]
      rw [show (9 : Int32) = I 9 from rfl, if_neg (by rw [I_lt (by omega) (by omega) (by omega) (by omega)]; omega), u19, l1, Option.bind_some, c2, Option.bind_some, show (60 : Int32) = I 60 from rfl, c4, Option.bind_some, show I d + 1 = I (d + 1) from I_add d 1]
      generalize lw S (60 : Int).toNat 0 0 = q at *
      by_cases q1 : q = -1
      · rw [if_pos q1, q1, if_neg (by decide), show (1000 : Int32) = I 1000 from rfl]
        by_cases q2 : lc ≤ 1000
        · rw [if_pos q2, if_pos (by rw [I_le (by omega) (by omega) (by omega) (by omega)]; omega)]
        · rw [if_neg q2, if_neg (by rw [I_le (by omega) (by omega) (by omega) (by omega)]; omega)]
      · rw [if_neg q1, if_pos (by rw [e19 q hl]; exact q1)]
        by_cases q2 : lc ≤ q
        · rw [if_pos q2, if_pos (by rw [I_le (by omega) (by omega) (by omega) (by omega)]; omega)]
        · rw [if_neg q2, if_neg (by rw [I_le (by omega) (by omega) (by omega) (by omega)]; omega)]
    have Y : mM_set_h65 NF (f' + 1) v (I k) (I x) (I y) (I (rowk rw k 8)) (I br) (I lr) (I d) = if lr ≤ (if lw S (60 : Int).toNat 0 0 = -1 then 1000 else lw S (60 : Int).toNat 0 0) then mM_set_h65 NF f' v6 (I k) (I x) (I y) (I (rowk rw k 8)) (I br) (I lr) (I (d + 1)) else mM_set_h65 NF f' v6 (I k) (I x) (I y) (I (rowk rw k 8)) (I d) (I (if lw S (60 : Int).toNat 0 0 = -1 then 1000 else lw S (60 : Int).toNat 0 0)) (I (d + 1)) := by
      show mM_set_65 NF _ _ _ _ _ _ _ _ _ = _
      unfold mM_set_65 mM_set_114 mM_set_130 mM_set_146
      simp only [nm]
      rw [show (10 : Int32) = I 10 from rfl, if_neg (by rw [I_le (by omega) (by omega) (by omega) (by omega)]; omega), I_mul, show (8 : Int32) = I 8 from rfl, I_add, wr_I (by omega) (by omega) (by omega), show (60 : Int32) = I 60 from rfl, show (1 : Int32) = I 1 from rfl, c6, Option.bind_some, c8, show I d + I 1 = I (d + 1) from I_add d 1]
      generalize lw S (60 : Int).toNat 0 0 = q at *
      by_cases q1 : q = -1
      · rw [if_pos q1, q1, if_neg (by decide), show (1000 : Int32) = I 1000 from rfl]
        by_cases q2 : lr ≤ 1000
        · rw [if_pos q2, if_pos (by rw [I_le (by omega) (by omega) (by omega) (by omega)]; omega), if_pos (by rw [I_le (by omega) (by omega) (by omega) (by omega)]; omega)]
        · rw [if_neg q2, if_neg (by rw [I_le (by omega) (by omega) (by omega) (by omega)]; omega), if_neg (by rw [I_le (by omega) (by omega) (by omega) (by omega)]; omega)]
      · rw [if_neg q1, if_pos (by rw [I_neg, I_eq (by omega) (by omega) (by omega) (by omega)]; exact q1)]
        by_cases q2 : lr ≤ q
        · rw [if_pos q2, if_pos (by rw [I_le (by omega) (by omega) (by omega) (by omega)]; omega), if_pos (by rw [I_le (by omega) (by omega) (by omega) (by omega)]; omega)]
        · rw [if_neg q2, if_neg (by rw [I_le (by omega) (by omega) (by omega) (by omega)]; omega), if_neg (by rw [I_le (by omega) (by omega) (by omega) (by omega)]; omega)]
    rw [X, Y]
    have hw : 0 ≤ (if lw S (60 : Int).toNat 0 0 = -1 then 1000 else lw S (60 : Int).toNat 0 0) ∧ (if lw S (60 : Int).toNat 0 0 = -1 then 1000 else lw S (60 : Int).toNat 0 0) ≤ 1000 := by
      split <;> omega
    generalize (if lw S (60 : Int).toNat 0 0 = -1 then 1000 else lw S (60 : Int).toNat 0 0) = wt at *
    have fin : ∀ bc' lc' : Int, (0 ≤ lc' ∧ lc' ≤ 1000) → ∃ (r : Int32) (u' : USt) (v' : MSt), mX10_set_h69 NF b f u6 (I k) (I x) (I y) k.toNat (I bc') (I lc') (I (d + 1)) = some (r, u') ∧ mM_set_h65 NF f' v6 (I k) (I x) (I y) (I (rowk rw k 8)) (I bc') (I lc') (I (d + 1)) = some (r, v') ∧ KX u u' ∧ VS v0 v' k (rowk rw k 8) := by
      intro bc' lc' h'
      obtain ⟨r, u', v', i1, i2, i3, i4⟩ := ih f f' (d + 1) d bc' lc' bc' lc' u6 v6 (by omega) (by omega) (by omega) (by omega) (by omega) (by omega) hX6 hT6 hV6 (by omega) (by omega) (.inl ⟨rfl, rfl⟩)
      exact ⟨r, u', v', i1, i2, (l2.kx.trans c3.kx).trans i3, i4⟩
    by_cases q : lc ≤ wt
    · have hr : bc = br ∧ lc = lr := by omega
      rw [if_pos q, if_pos (by omega), hr.1, hr.2]
      exact fin br lr (by omega)
    · rw [if_neg q, if_neg (by omega)]
      exact fin d wt hw
theorem pu_set : Pu_set InvX := by
  have hbig := NF_big
  intro u b v a1 a2 a3 h
  have hh := h
  obtain ⟨k, rfl, k1, k2⟩ := I_ex a1
  obtain ⟨x, rfl, x1, x2⟩ := I_ex a2
  obtain ⟨y, rfl, y1, y2⟩ := I_ex a3
  obtain ⟨n, rw, fr, se, hX, hM, hs, hP, hN, hG⟩ := h
  have hX' := hX
  have hM' := hM
  obtain ⟨h1, h2, h3, h4, h5, h6⟩ := hX
  obtain ⟨hr, hf, hf2, hn, hn1, hn2, hwo, hsk, hse, hwo2, hsk2, hse2, hv⟩ := hM
  unfold mX10_set mX10_set_22 mM_set mM_set_22
  rw [x_isBridge NF h1 h2 h3 k1 k2, m_isBridge NF hn hn1 hn2 k1 k2, x_isIslet NF x1 x2, m_isIslet NF x1 x2, x_isIslet NF y1 y2, m_isIslet NF y1 y2]
  simp (disch := omega) only [Option.bind_some, I_lit, bo_0, Decidable.not_not, I_neg, I_mul, I_add, nm]
  by_cases q1 : 0 ≤ k ∧ k < n
  · rw [if_neg (not_not_intro q1), if_neg (not_not_intro q1)]
    by_cases q2 : 0 ≤ x ∧ x < 8
    · rw [if_neg (not_not_intro q2), if_neg (not_not_intro q2)]
      by_cases q3 : 0 ≤ y ∧ y < 8
      · rw [if_pos q3, if_pos q3]
        have hb := hX'.row q1.1 q1.2
        have h0 := hb.rv.1
        have e0 : rw (10 * k) = rowk rw k 0 := by
          unfold rowk
          rw [Int.add_zero]
        have e8 : rw (10 * k + 8) = rowk rw k 8 := rfl
        rw [x_get NF hX' q1.1 q1.2, Option.bind_some, hb.skip, bcl_cls hb, iv_fixed hb.rv]
        simp (disch := omega) only [bo_0, rd_I, hr (10 * k) (by omega) (by omega), hr (10 * k + 8) (by omega) (by omega), e0, e8, I_eq]
        by_cases q4 : rowk rw k 0 = 3
        · rw [if_neg (not_not_intro q4), if_neg (not_not_intro q4)]
          exact ⟨_, _, _, rfl, rfl, hh⟩
        · rw [if_pos q4, if_pos q4]
          obtain ⟨u7, t1, t2, t3⟩ := x_openTable (s := 0) (sp := 459) (p := 1) (w := 1) se hX' hs (by omega) (by omega) (by omega) (by omega) (by omega) (by omega) (by omega) (by omega)
          have e : rwS rw k (rowk rw k 8) = rw := by
            funext z
            unfold rwS
            split
            · rename_i q
              rw [q]
              rfl
            · rfl
          have h8 := hs k q1.1 q1.2
          obtain ⟨r, u', v', c1, c2, c3, c4⟩ := set_l (b := b) (v0 := v) hs q1.1 q1.2 hM' q2.1 q2.2 q3.1 q3.2 10 NF NF 0 (rowk rw k 8) 0 2147483647 (-1) 100000 u7 v (by omega) (by omega) (by omega) (by omega) (by omega) (by omega) (hX'.keep t2) (by rw [e]; exact t3) (VS.init hr q1.1 q1.2 hn2) (by omega) (by omega) (.inr ⟨by omega, by omega, by omega⟩)
          rw [t1, Option.bind_some]
          exact ⟨r, u', v', c1, c2, hh.keep (t2.trans c3) (c4.done hr q1.1 q1.2 hn2)⟩
      · rw [if_neg q3, if_neg q3]
        exact ⟨_, _, _, rfl, rfl, hh⟩
    · rw [if_pos q2, if_pos q2]
      exact ⟨_, _, _, rfl, rfl, hh⟩
  · rw [if_pos q1, if_pos q1]
    exact ⟨_, _, _, rfl, rfl, hh⟩
