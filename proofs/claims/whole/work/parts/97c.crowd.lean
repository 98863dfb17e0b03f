theorem m_cr122 {n fr se f g m p w sp : Int} {rw : Int → Int} (sp1 : 0 ≤ sp) (sp2 : sp ≤ 60) (p1 : 1 ≤ p) (p2 : p ≤ 9) (w1 : 1 ≤ w) (w2 : w ≤ 9) (m1 : 0 ≤ m) (m2 : m ≤ 999) (f1 : 0 ≤ f) (f2 : f < 8) (g1 : 0 ≤ g) (g2 : g < 8) (hfg : f ≠ g) : ∀ (d k : Nat) (V : Int) (v : MSt) (F : Int → Int → Int → Int), d < k → (d : Int) = 611 - V → 0 ≤ V → Mst v rw n fr (-1) (-1) se → FR v F → FV sp p n (Mr (Lw (-1) (-1) se fr rw p w) m) (488 * V) F → Flw sp p n (Pw rw) (Mr (Lw (-1) (-1) se fr rw p w) m) f g V F → ∃ (V' : Int) (v' : MSt) (F' : Int → Int → Int → Int), mM_crowd_h122 NF k v (I f) (I g) (I m) (I (m + sp)) (I p) (I w) (I V) = some (I V', v') ∧ VO v v' ∧ FV sp p n (Mr (Lw (-1) (-1) se fr rw p w) m) (488 * (V' + 1)) F' ∧ Flw sp p n (Pw rw) (Mr (Lw (-1) (-1) se fr rw p w) m) f g V' F' ∧ Shu sp p n (Pw rw) (Mr (Lw (-1) (-1) se fr rw p w) m) f g F' := by
  intro d
  induction d with
  | zero =>
    intro k V v F hk hd hV hM hR hF hW
    have := Flw_le hF hW hfg
    omega
  | succ d ih =>
    intro k V v F hk hd hV hM hR hF hW
    obtain ⟨k, rfl⟩ : ∃ g, k = g + 1 := ⟨k - 1, by omega⟩
    have hV2 := Flw_le hF hW hfg
    obtain ⟨v1, F1, a1, a2, a3, a4⟩ := m_oneMore hM hR hF (by omega) hW sp1 sp2 p1 p2 w1 w2 m1 m2 f1 f2 g1 g2
    have hst : ∀ r : Int32, mM_oneMore NF v (I f) (I g) (I m) (I sp) (I p) (I w) = some (r, v1) → mM_crowd_h122 NF (k + 1) v (I f) (I g) (I m) (I (m + sp)) (I p) (I w) (I V) = if r = 0 then some (I V, v1) else mM_crowd_h122 NF k v1 (I f) (I g) (I m) (I (m + sp)) (I p) (I w) (I (V + 1)) := by
      intro r hr
      show mM_crowd_122 NF _ _ _ _ _ _ _ _ _ = _
      unfold mM_crowd_122
      rw [I_sub, show m + sp - m = sp by omega, hr, bp_some, show I V + 1 = I (V + 1) from I_add V 1]
    rcases a4 with ⟨b1, b2, b3⟩ | ⟨b1, b2⟩
    · rw [hst 0 b1, if_pos rfl]
      exact ⟨V, v1, F1, rfl, a1, a3.mono (by omega), b2, b3⟩
    · rw [hst 1 b1, if_neg (by decide)]
      obtain ⟨V', v', F', i1, i2, i3⟩ := ih k (V + 1) v1 F1 (by omega) (by omega) (by omega) (a1.mst hM) a2 (a3.mono (by omega)) b2
      exact ⟨V', v', F', i1, a1.trans i2, i3⟩
theorem m_cr89 {x1 x2 x3 x4 x5 x6 : Int32} : ∀ (d k : Nat) (j : Int) (v : MSt) (a b : Nat → Int32), d < k → (d : Int) = 610 - j → 0 ≤ j → (∀ x, 0 ≤ x → x < j → a x.toNat = I 0 ∧ b x.toNat = I 0) → ∃ a' b' : Nat → Int32, (∀ x : Int, 0 ≤ x → x < 610 → a' x.toNat = I 0 ∧ b' x.toNat = I 0) ∧ mM_crowd_h89 NF k (sfM (sfM v 14 a) 15 b) x1 x2 x3 x4 x5 x6 (I j) = mM_crowd_h122 NF NF (sfM (sfM v 14 a') 15 b') x1 x2 x3 x4 x5 x6 0 := by
  intro d
  induction d with
  | zero =>
    intro k j v a b hk hd hj hh
    obtain ⟨k, rfl⟩ : ∃ g, k = g + 1 := ⟨k - 1, by omega⟩
    refine ⟨a, b, fun x x1 x2 => hh x x1 (by omega), ?_⟩
    show mM_crowd_89 NF _ _ _ _ _ _ _ _ _ = _
    unfold mM_crowd_89
    rw [show (610 : Int32) = I 610 from rfl, if_pos (by rw [I_le (by omega) (by omega) (by omega) (by omega)]; omega)]
  | succ d ih =>
    intro k j v a b hk hd hj hh
    obtain ⟨k, rfl⟩ : ∃ g, k = g + 1 := ⟨k - 1, by omega⟩
    obtain ⟨a', b', i1, i2⟩ := ih k (j + 1) v (upd a j.toNat (I 0)) (upd b j.toNat (I 0)) (by omega) (by omega) (by omega) (fun x x1 x2 => by
      by_cases q : x = j
      · subst q
        rw [ud_eq, ud_eq]
        exact ⟨rfl, rfl⟩
      · rw [ud_ne (by omega), ud_ne (by omega)]
        exact hh x x1 (by omega))
    refine ⟨a', b', i1, ?_⟩
    rw [← i2]
    show mM_crowd_89 NF _ _ _ _ _ _ _ _ _ = _
    unfold mM_crowd_89
    have e1 : saM (sfM (sfM v 14 a) 15 b) 14 j.toNat 0 = sfM (sfM v 14 (upd a j.toNat (I 0))) 15 b := by
      have hz : va_up (va_up (va_up v.2.1 14 a) 15 b) 14 (upd a j.toNat (I 0)) = va_up (va_up v.2.1 14 (upd a j.toNat (I 0))) 15 b := by
        funext z
        by_cases q : z = 14
        · rw [q, vu_eq, vu_ne (by omega), vu_eq]
        · by_cases q2 : z = 15
          · rw [q2, vu_ne (by omega), vu_eq, vu_eq]
          · rw [vu_ne q, vu_ne q2, vu_ne q, vu_ne q2, vu_ne q]
      show (v.1, va_up (va_up (va_up v.2.1 14 a) 15 b) 14 (upd (va_up (va_up v.2.1 14 a) 15 b 14) j.toNat (I 0)), v.2.2) = (v.1, va_up (va_up v.2.1 14 (upd a j.toNat (I 0))) 15 b, v.2.2)
      have h14 : va_up (va_up v.2.1 14 a) 15 b 14 = a := by
        rw [vu_ne (by omega), vu_eq]
      rw [h14, hz]
    rw [show (610 : Int32) = I 610 from rfl, if_neg (by rw [I_le (by omega) (by omega) (by omega) (by omega)]; omega), wr_I hj (by omega) (by omega), nm_eq, wr_I hj (by omega) (by omega), nm_eq, e1, saM_sfM, show I j + 1 = I (j + 1) from I_add j 1]
    rfl
theorem m_cr64 {x1 x2 x3 x4 x5 x6 : Int32} : ∀ (d k : Nat) (j : Int) (v : MSt) (a : Nat → Int32), d < k → (d : Int) = 488 - j → 0 ≤ j → (∀ x, 0 ≤ x → x < j → a x.toNat = I 0) → ∃ a' : Nat → Int32, (∀ x : Int, 0 ≤ x → x < 488 → a' x.toNat = I 0) ∧ mM_crowd_h64 NF k (sfM v 13 a) x1 x2 x3 x4 x5 x6 (I j) = mM_crowd_h89 NF NF (sfM v 13 a') x1 x2 x3 x4 x5 x6 0 := by
  intro d
  induction d with
  | zero =>
    intro k j v a hk hd hj hh
    obtain ⟨k, rfl⟩ : ∃ g, k = g + 1 := ⟨k - 1, by omega⟩
    refine ⟨a, fun x x1 x2 => hh x x1 (by omega), ?_⟩
    show mM_crowd_64 NF _ _ _ _ _ _ _ _ _ = _
    unfold mM_crowd_64
    rw [show (488 : Int32) = I 488 from rfl, if_pos (by rw [I_le (by omega) (by omega) (by omega) (by omega)]; omega)]
  | succ d ih =>
    intro k j v a hk hd hj hh
    obtain ⟨k, rfl⟩ : ∃ g, k = g + 1 := ⟨k - 1, by omega⟩
    obtain ⟨a', i1, i2⟩ := ih k (j + 1) v (upd a j.toNat (I 0)) (by omega) (by omega) (by omega) (fun x x1 x2 => by
      by_cases q : x = j
      · subst q
        rw [ud_eq]
      · rw [ud_ne (by omega)]
        exact hh x x1 (by omega))
    refine ⟨a', i1, ?_⟩
    rw [← i2]
    show mM_crowd_64 NF _ _ _ _ _ _ _ _ _ = _
    unfold mM_crowd_64
    rw [show (488 : Int32) = I 488 from rfl, if_neg (by rw [I_le (by omega) (by omega) (by omega) (by omega)]; omega), wr_I hj (by omega) (by omega), nm_eq, saM_sfM, show I j + 1 = I (j + 1) from I_add j 1]
    rfl
theorem m_crowd {n fr se f g m p w sp : Int} {rw : Int → Int} {v : MSt} (hM : Mst v rw n fr (-1) (-1) se) (sp1 : 0 ≤ sp) (sp2 : sp ≤ 60) (p1 : 1 ≤ p) (p2 : p ≤ 9) (w1 : 1 ≤ w) (w2 : w ≤ 9) (m1 : 0 ≤ m) (m2 : m ≤ 999) (f1 : 0 ≤ f) (f2 : f < 8) (g1 : 0 ≤ g) (g2 : g < 8) (hfg : f ≠ g) : ∃ (V' : Int) (v' : MSt) (F' : Int → Int → Int → Int), mM_crowd_h64 NF NF v (I f) (I g) (I m) (I (m + sp)) (I p) (I w) 0 = some (I V', v') ∧ VO v v' ∧ FV sp p n (Mr (Lw (-1) (-1) se fr rw p w) m) (488 * (V' + 1)) F' ∧ Flw sp p n (Pw rw) (Mr (Lw (-1) (-1) se fr rw p w) m) f g V' F' ∧ Shu sp p n (Pw rw) (Mr (Lw (-1) (-1) se fr rw p w) m) f g F' := by
  have hb := NF_big
  obtain ⟨a', i1, i2⟩ := m_cr64 (x1 := I f) (x2 := I g) (x3 := I m) (x4 := I (m + sp)) (x5 := I p) (x6 := I w) 488 NF 0 v (v.2.1 13) (by omega) (by omega) (by omega) (fun x x1 x2 => by omega)
  rw [sfM_self] at i2
  obtain ⟨b', c', j1, j2⟩ := m_cr89 (x1 := I f) (x2 := I g) (x3 := I m) (x4 := I (m + sp)) (x5 := I p) (x6 := I w) 610 NF 0 (sfM v 13 a') ((sfM v 13 a').2.1 14) ((sfM v 13 a').2.1 15) (by omega) (by omega) (by omega) (fun x x1 x2 => by omega)
  have e15 : (sfM (sfM v 13 a') 14 ((sfM v 13 a').2.1 14)).2.1 15 = (sfM v 13 a').2.1 15 := sfM_ne (by omega)
  rw [← e15, sfM_self, sfM_self] at j2
  have hV : VO v (sfM (sfM (sfM v 13 a') 14 b') 15 c') := ⟨fun _ _ => rfl, fun a q => by
    rw [sfM_ne (by omega), sfM_ne (by omega), sfM_ne (by omega)]⟩
  have hR : FR (sfM (sfM (sfM v 13 a') 14 b') 15 c') (fun _ _ _ => 0) := by
    refine ⟨fun k t k1 k2 t1 t2 => ⟨?_, ?_⟩, fun i t i1' i2' t1 t2 => ?_⟩
    · rw [sfM_ne (by omega), sfM_g]
      exact (j1 (10 * t + k) (by omega) (by omega)).1
    · rw [sfM_g]
      exact (j1 (10 * t + k) (by omega) (by omega)).2
    · rw [sfM_ne (by omega), sfM_ne (by omega), sfM_g]
      exact i1 (8 * t + i) (by omega) (by omega)
  have hF : FV sp p n (Mr (Lw (-1) (-1) se fr rw p w) m) (488 * 0) (fun _ _ _ => 0) := fun c k t _ => ⟨Int.le_refl 0, fun _ => (show (0 : Int) ≤ 1 by decide), (show (0 : Int) ≤ 488 * 0 by decide), fun z => absurd rfl z⟩
  obtain ⟨V', v', F', k1, k2, k3⟩ := m_cr122 sp1 sp2 p1 p2 w1 w2 m1 m2 f1 f2 g1 g2 hfg 611 NF 0 _ _ (by omega) (by omega) (by omega) (hV.mst hM) hR hF (Flw_0 sp p n (Pw rw) _ f g)
  refine ⟨V', v', F', ?_, hV.trans k2, k3⟩
  rw [show mM_crowd_h64 NF NF v (I f) (I g) (I m) (I (m + sp)) (I p) (I w) 0 = _ from i2, show mM_crowd_h89 NF NF (sfM v 13 a') (I f) (I g) (I m) (I (m + sp)) (I p) (I w) 0 = _ from j2]
  exact k1
theorem pu_crowd : Pu_crowd InvX := by
  have hbig := NF_big
  intro u b v a1 a2 a3 a4 a5 a6 h
  have hh := h
  obtain ⟨x, rfl, x1, x2⟩ := I_ex a1
  obtain ⟨y, rfl, y1, y2⟩ := I_ex a2
  obtain ⟨m, rfl, m1, m2⟩ := I_ex a3
  obtain ⟨o, rfl, o1, o2⟩ := I_ex a4
  obtain ⟨p, rfl, p1, p2⟩ := I_ex a5
  obtain ⟨w, rfl, w1, w2⟩ := I_ex a6
  obtain ⟨n, rw, fr, se, hX, hM, hs, hP, hN, hG⟩ := h
  unfold mX10_crowd mX10_crowd_14 mX10_crowd_39 mM_crowd mM_crowd_14 mM_crowd_50
  rw [x_isIslet NF x1 x2, x_isIslet NF y1 y2, x_isMinute NF m1 m2, x_isCarrier NF w1 w2 p1 p2, m_isIslet NF x1 x2, m_isIslet NF y1 y2, m_isMinute NF m1 m2, m_isCarrier NF w1 w2 p1 p2, Option.bind_some, Option.bind_some]
  rw [show (0 : Int32) = I 0 from rfl]
  simp only [bo_0, Decidable.not_not, Option.bind_some]
  by_cases q1 : 0 ≤ x ∧ x < 8
  · rw [if_neg (not_not_intro q1), if_neg (not_not_intro q1)]
    by_cases q2 : 0 ≤ y ∧ y < 8
    · rw [if_pos q2, if_pos q2]
      by_cases q3 : 0 ≤ m ∧ m ≤ 999
      · rw [if_neg (not_not_intro q3), if_neg (not_not_intro q3)]
        rw [show (60 : Int32) = I 60 from rfl, I_add, I_64 o1 o2, I_64 m1 m2, I_64 (by omega) (by omega), m_in NF (by omega) (by omega) (by omega) (by omega) (by omega) (by omega), Option.bind_some]
        simp only [bo_0]
        by_cases q5 : m ≤ o ∧ o ≤ m + 60
        · rw [if_neg (by rw [I_lt (by omega) (by omega) (by omega) (by omega)]; omega), if_pos (by rw [I_le (by omega) (by omega) (by omega) (by omega)]; omega), if_neg (not_not_intro q5)]
          by_cases q4 : (1 ≤ p ∧ p ≤ 9) ∧ 1 ≤ w ∧ w ≤ 9
          · rw [if_pos q4, if_pos q4]
            by_cases q6 : x = y
            · rw [if_neg (not_not_intro (by rw [q6])), if_neg (not_not_intro (by rw [q6]))]
              exact ⟨_, _, _, rfl, rfl, hh⟩
            · rw [if_pos (by rw [I_eq (by omega) (by omega) (by omega) (by omega)]; exact q6), if_pos (by rw [I_eq (by omega) (by omega) (by omega) (by omega)]; exact q6), I_sub]
              obtain ⟨u6, e1, e2, e3⟩ := x_openTable (s := m) (sp := o - m) (p := p) (w := w) se hX hs q3.1 q3.2 (by omega) (by omega) q4.1.1 q4.1.2 q4.2.1 q4.2.2
              obtain ⟨V1, u8, F1, c1, c2, c3, c4, c5⟩ := x_most e3 (Net_w hM) hX.2.1 hX.2.2.1 q3.1 (by omega) (by omega) q4.1.1 q4.1.2 q1.1 q1.2 q2.1 q2.2 q6
              obtain ⟨V2, v8, F2, d1, d2, d3, d4, d5⟩ := m_crowd (sp := o - m) hM (by omega) (by omega) q4.1.1 q4.1.2 q4.2.1 q4.2.2 q3.1 q3.2 q1.1 q1.2 q2.1 q2.2 q6
              have hV : V1 = V2 := Flw_eq c3 d3 c4 d4 c5 d5
              rw [show m + (o - m) = o by omega] at d1
              rw [e1, Option.bind_some, c1, bp_some]
              refine ⟨I V1, u8, v8, rfl, ?_, hh.keep (e2.trans c2.kx) d2.km⟩
              rw [hV]
              exact d1
          · rw [if_neg q4, if_neg q4]
            exact ⟨_, _, _, rfl, rfl, hh⟩
        · rw [if_pos q5]
          refine ⟨-102, u, v, ?_, rfl, hh⟩
          by_cases q7 : o < m
          · rw [if_pos (by rw [I_lt (by omega) (by omega) (by omega) (by omega)]; exact q7)]
          · rw [if_neg (by rw [I_lt (by omega) (by omega) (by omega) (by omega)]; exact q7), if_neg (by rw [I_le (by omega) (by omega) (by omega) (by omega)]; omega)]
      · rw [if_pos q3, if_pos q3]
        exact ⟨_, _, _, rfl, rfl, hh⟩
    · rw [if_neg q2, if_neg q2]
      exact ⟨_, _, _, rfl, rfl, hh⟩
  · rw [if_pos q1, if_pos q1]
    exact ⟨_, _, _, rfl, rfl, hh⟩
theorem pure_ok : PureOK InvX := ⟨pu_letters, pu_blank, pu_fault, pu_bridge, pu_as, pu_about, pu_offset, pu_frost, pu_joins, pu_lasts, pu_soonest, pu_last, pu_again, pu_cut, pu_worst, pu_mean, pu_set, pu_crowd, pu_stranded, pu_meeting, pu_note, pu_forget, pu_lost, pu_worth, pu_image, pu_restore, pu_count, pu_digest⟩
