theorem NF_big : 1000000 < NF := by
  unfold NF
  omega
theorem Rv_congr {r r' : Int → Int} (h : ∀ f, 0 ≤ f → f < 10 → r' f = r f) (hr : Rv r) : Rv r' := by
  obtain ⟨g0, g1, g2, g3, g6, g7, g8, g9⟩ := hr
  have e2 := h 2 (by omega) (by omega)
  refine ⟨by rw [h 0 (by omega) (by omega)]; exact g0, by rw [h 1 (by omega) (by omega)]; exact g1, by rw [e2]; exact g2, fun j j1 j2 => ?_, by rw [h 6 (by omega) (by omega)]; exact g6, by rw [h 7 (by omega) (by omega)]; exact g7, by rw [h 8 (by omega) (by omega)]; exact g8, by rw [h 9 (by omega) (by omega)]; exact g9⟩
  rw [e2] at j2
  rw [h (3 + j) (by omega) (by omega), h 1 (by omega) (by omega)]
  exact g3 j j1 j2
theorem Bv_congr {v : BV} {r r' : Int → Int} (h : ∀ f, 0 ≤ f → f < 10 → r' f = r f) (hr : Bv v r) (g2 : r 2 ≤ 3) : Bv v r' := by
  obtain ⟨b0, b1, b2, b3, b4, b5, b6, b7⟩ := hr
  refine ⟨by rw [h 0 (by omega) (by omega)]; exact b0, by rw [h 1 (by omega) (by omega)]; exact b1, by rw [h 6 (by omega) (by omega)]; exact b2, by rw [h 7 (by omega) (by omega)]; exact b3, by rw [h 9 (by omega) (by omega)]; exact b4, by rw [h 8 (by omega) (by omega)]; exact b5, by rw [h 2 (by omega) (by omega)]; exact b6, fun j j1 j2 => ?_⟩
  rw [h 2 (by omega) (by omega)] at j2
  rw [h (3 + j) (by omega) (by omega)]
  exact b7 j j1 j2
theorem XB_congr {b : BSt} {k : Nat} {r r' : Int → Int} (h : ∀ f, 0 ≤ f → f < 10 → r' f = r f) (hr : XB b k r) : XB b k r' := by
  obtain ⟨x, rfl, hk, hb, hv⟩ := hr
  exact ⟨x, rfl, hk, Bv_congr h hb hv.2.2.1.2, Rv_congr h hv⟩
/-- the table with another offset -/
def rwS (rw : Int → Int) (k y : Int) : Int → Int := fun j => if j = 10 * k + 8 then y else rw j
theorem rwS_k (rw : Int → Int) (k y : Int) : rowk (rwS rw k y) k = fun f => if f = 8 then y else rowk rw k f := by
  funext f
  unfold rowk rwS
  by_cases q : f = 8
  · rw [if_pos (by omega), if_pos q]
  · rw [if_neg (by omega), if_neg q]
theorem rwS_o {rw : Int → Int} {k y k' f : Int} (h : k' ≠ k) (h1 : 0 ≤ f) (h2 : f < 10) : rowk (rwS rw k y) k' f = rowk rw k' f := by
  unfold rowk rwS
  rw [if_neg (by omega)]
theorem Rv_S {r : Int → Int} {y : Int} (h : Rv r) (h1 : -1000 ≤ y) (h2 : y ≤ 1000) : Rv (fun f => if f = 8 then y else r f) := by
  obtain ⟨g0, g1, g2, g3, g6, g7, g8, g9⟩ := h
  refine ⟨g0, g1, g2, fun j j1 j2 => ?_, g6, g7, ⟨h1, h2⟩, g9⟩
  have j2' : j < r 2 := j2
  have e : (fun f => if f = 8 then y else r f) (3 + j) = r (3 + j) := if_neg (by omega)
  rw [e]
  exact g3 j j1 j2
theorem XB_S {b : BSt} {k : Nat} {r : Int → Int} {y : Int} (h : XB b k r) (h1 : -1000 ≤ y) (h2 : y ≤ 1000) : XB (bset b k (I y)) k (fun f => if f = 8 then y else r f) := by
  obtain ⟨x, rfl, hk, ⟨b0, b1, b2, b3, b4, b5, b6, b7⟩, hv⟩ := h
  refine ⟨(x.1, x.2.1, va_up x.2.2 k (shv (x.2.2 k) (I y))), rfl, hk, ?_, Rv_S hv h1 h2⟩
  show Bv (va_up x.2.2 k (shv (x.2.2 k) (I y)) k) _
  rw [vu_eq]
  refine ⟨b0, b1, b2, b3, b4, rfl, b6, fun j j1 j2 => ?_⟩
  have j2' : j < r 2 := j2
  have g2 := hv.2.2.1.2
  show _ = I (if 3 + j = 8 then y else r (3 + j))
  rw [if_neg (by omega)]
  exact b7 j j1 j2'
theorem XB_So {b : BSt} {k k' : Nat} {r : Int → Int} {y : Int32} (h : XB b k' r) (hk : k' ≠ k) : XB (bset b k y) k' r := by
  obtain ⟨x, rfl, h', hb, hv⟩ := h
  refine ⟨(x.1, x.2.1, va_up x.2.2 k (shv (x.2.2 k) y)), rfl, h', ?_, hv⟩
  show Bv (va_up x.2.2 k (shv (x.2.2 k) y) k') _
  rw [vu_ne hk]
  exact hb
theorem Xst_S {u : USt} {b : BSt} {rw : Int → Int} {n fr k y : Int} (h : Xst u b rw n fr) (k1 : 0 ≤ k) (k2 : k < n) (h1 : -1000 ≤ y) (h2 : y ≤ 1000) : Xst u (bset b k.toNat (I y)) (rwS rw k y) n fr := by
  have hk := h.row k1 k2
  obtain ⟨a1, a2, a3, a4, a5, a6, a7, a8⟩ := h
  refine ⟨a1, a2, a3, a4, a5, fun q => ?_, fun x q => ?_, fun j j1 j2 => ?_⟩
  · obtain ⟨x, rfl, -⟩ := hk
    exact absurd q (by unfold bset; simp)
  · obtain ⟨x', rfl, -⟩ := hk
    have := a7 x' rfl
    unfold bset at q
    cases q
    exact this
  · by_cases q : j = k
    · subst q
      rw [rwS_k]
      exact XB_S hk h1 h2
    · exact XB_congr (fun f f1 f2 => rwS_o q f1 f2) (XB_So (a8 j j1 j2) (by omega))
theorem Mst_S {v : MSt} {rw : Int → Int} {n fr wo sk se k y : Int} (h : Mst v rw n fr wo sk se) (hsk : sk = -1) (k1 : 0 ≤ k) (k2 : k < n) (h1 : -1000 ≤ y) (h2 : y ≤ 1000) : Mst (saM v 5 (10 * k + 8).toNat (I y)) (rwS rw k y) n fr wo sk se := by
  obtain ⟨hr, hf, hf2, hn, hn1, hn2, w1, w2, w3, w4, w5, w6, hv⟩ := h
  refine ⟨fun z z1 z2 => ?_, hf, hf2, hn, hn1, hn2, w1, w2, w3, w4, w5, fun q => by omega, fun j j1 j2 => ?_⟩
  · show va_up v.2.1 5 (upd (v.2.1 5) (10 * k + 8).toNat (I y)) 5 z.toNat = _
    rw [vu_eq]
    unfold rwS
    by_cases q : z = 10 * k + 8
    · rw [q, ud_eq, if_pos rfl]
    · rw [ud_ne (by omega), if_neg q]
      exact hr z z1 z2
  · by_cases q : j = k
    · subst q
      rw [rwS_k]
      exact Rv_S (hv j j1 j2) h1 h2
    · exact Rv_congr (fun f f1 f2 => rwS_o q f1 f2) (hv j j1 j2)
theorem Shf_S {rw : Int → Int} {n k y : Int} (h : Shf rw n) (h1 : 0 ≤ y) (h2 : y ≤ 9) : Shf (rwS rw k y) n := by
  intro j j1 j2
  by_cases q : j = k
  · subst q
    rw [rwS_k]
    exact ⟨h1, h2⟩
  · rw [rwS_o q (by omega) (by omega)]
    exact h j j1 j2
theorem pu_offset : Pu_offset InvX := by
  intro u b v a1 a2 h
  have hh := h
  obtain ⟨z, rfl, z1, z2⟩ := I_ex a1
  obtain ⟨y, rfl, y1, y2⟩ := I_ex a2
  obtain ⟨n, rw, fr, se, hX, hM, hs, hP, hN, hG⟩ := h
  have hX' := hX
  have hM' := hM
  obtain ⟨h1, h2, h3, h4, h5, h6⟩ := hX
  obtain ⟨hr, hf, hf2, hn, hn1, hn2, hr'⟩ := hM
  unfold mX10_offset mX10_offset_21 mM_offset
  rw [x_isBridge NF h1 h2 h3 z1 z2, Option.bind_some, m_isBridge NF hn hn1 hn2 z1 z2, Option.bind_some]
  simp (disch := omega) only [I_lit, bo_0, Decidable.not_not, I_64, Lg_lit, m_in, Option.bind_some, I_lt, I_le]
  by_cases q : 0 ≤ z ∧ z < n
  · rw [if_pos q, if_pos q]
    by_cases q2 : 0 ≤ y ∧ y ≤ 9
    · rw [if_neg (by omega), if_pos (by omega), if_pos q2, x_get NF hX' q.1 q.2, Option.bind_some, (hX'.row q.1 q.2).skip, (hX'.row q.1 q.2).f5]
      unfold bsh
      rw [(hX'.row q.1 q.2).skip]
      simp (disch := omega) only [I_mul, I_add, rd_I, wr_I, nm, hr (10 * z + 8) (by omega) (by omega)]
      exact ⟨_, _, _, rfl, rfl, n, rwS rw z y, fr, se, Xst_S hX' q.1 q.2 (by omega) (by omega), Mst_S hM' rfl q.1 q.2 (by omega) (by omega), Shf_S hs q2.1 q2.2, hP, hN, hG⟩
    · rw [if_neg q2]
      refine ⟨I (-102), b, v, ?_, rfl, hh⟩
      (repeat' split) <;> first | rfl | (exfalso; omega)
  · rw [if_neg q, if_neg q]
    exact ⟨_, _, _, rfl, rfl, hh⟩
theorem jnW_n {se fr : Int} {r : Int → Int} {k t : Int} (h : 0 ≤ k) : jnW (-1) (-1) se fr r k t = jn fr r t := by
  unfold jnW
  rw [if_neg (by omega), if_neg (by omega)]
theorem lsW_n {se fr : Int} {r : Int → Int} {k t : Int} (h : 0 ≤ k) : lsW (-1) (-1) se fr r k t = ls fr r t := by
  unfold lsW ls
  rw [jnW_n h]
  (repeat' split) <;> first | rfl | (exfalso; omega)
theorem pu_joins : Pu_joins InvX := by
  intro u b v a1 a2 h
  have hh := h
  obtain ⟨z, rfl, z1, z2⟩ := I_ex a1
  obtain ⟨y, rfl, y1, y2⟩ := I_ex a2
  obtain ⟨n, rw, fr, se, hX, hM, hs, hP, hN, hG⟩ := h
  have hX' := hX
  have hM' := hM
  obtain ⟨h1, h2, h3, h4, h5, h6⟩ := hX
  obtain ⟨hr, hf, hf2, hn, hn1, hn2, hr'⟩ := hM
  unfold mX10_joins mX10_joins_22 mM_joins mM_joins_34
  rw [x_isBridge NF h1 h2 h3 z1 z2, Option.bind_some, m_isBridge NF hn hn1 hn2 z1 z2, Option.bind_some]
  simp (disch := omega) only [I_lit, bo_0, Decidable.not_not, I_64, Lg_lit, m_in, Option.bind_some, I_lt, I_le]
  by_cases q : 0 ≤ z ∧ z < n
  · rw [if_pos q, if_pos q]
    by_cases q2 : 0 ≤ y ∧ y ≤ 9999
    · have h8 := hs z q.1 q.2
      rw [if_neg (by omega), if_pos (by omega), if_neg (fun g => g q2), x_get NF hX' q.1 q.2, Option.bind_some, (hX'.row q.1 q.2).skip, (hX'.row q.1 q.2).f5, I_add, h4, xendAt NF (hX'.row q.1 q.2) h5 (by omega) (by omega), mM_joinsNow_I NF hM' q.1 q.2 (by omega) (by omega), jnW_n q.1, jnm_jn]
      exact ⟨_, rfl, rfl, hh⟩
    · rw [if_pos q2]
      refine ⟨I (-102), ?_, rfl, hh⟩
      (repeat' split) <;> first | rfl | (exfalso; omega)
  · rw [if_neg q, if_neg q]
    exact ⟨_, rfl, rfl, hh⟩
theorem pu_lasts : Pu_lasts InvX := by
  intro u b v a1 a2 h
  have hh := h
  obtain ⟨z, rfl, z1, z2⟩ := I_ex a1
  obtain ⟨y, rfl, y1, y2⟩ := I_ex a2
  obtain ⟨n, rw, fr, se, hX, hM, hs, hP, hN, hG⟩ := h
  have hX' := hX
  have hM' := hM
  obtain ⟨h1, h2, h3, h4, h5, h6⟩ := hX
  obtain ⟨hr, hf, hf2, hn, hn1, hn2, hr'⟩ := hM
  unfold mX10_lasts mX10_lasts_22 mM_lasts mM_lasts_34
  rw [x_isBridge NF h1 h2 h3 z1 z2, Option.bind_some, m_isBridge NF hn hn1 hn2 z1 z2, Option.bind_some]
  simp (disch := omega) only [I_lit, bo_0, Decidable.not_not, I_64, Lg_lit, m_in, Option.bind_some, I_lt, I_le]
  by_cases q : 0 ≤ z ∧ z < n
  · rw [if_pos q, if_pos q]
    by_cases q2 : 0 ≤ y ∧ y ≤ 9999
    · have h8 := hs z q.1 q.2
      rw [if_neg (by omega), if_pos (by omega), if_neg (fun g => g q2), x_get NF hX' q.1 q.2, Option.bind_some, (hX'.row q.1 q.2).skip, (hX'.row q.1 q.2).f5, I_add, h4, xstands NF (hX'.row q.1 q.2) h5 (by omega) (by omega), mM_lastsNow_I NF hM' q.1 q.2 (by omega) (by omega), lsW_n q.1, lsm_ls (hX'.row q.1 q.2).rv]
      exact ⟨_, rfl, rfl, hh⟩
    · rw [if_pos q2]
      refine ⟨I (-102), ?_, rfl, hh⟩
      (repeat' split) <;> first | rfl | (exfalso; omega)
  · rw [if_neg q, if_neg q]
    exact ⟨_, rfl, rfl, hh⟩
/-- how many of the next d turn -/
def trn (rw : Int → Int) : Nat → Int → Int
  | 0, _ => 0
  | d + 1, j => (if rowk rw j 0 = 3 then 0 else 1) + trn rw d (j + 1)
theorem x_turning (N : Nat) {u : USt} {b : BSt} {rw : Int → Int} {n fr : Int} (h : Xst u b rw n fr) : ∀ (d f : Nat) (c j : Int), d < f → (d : Int) = n - j → 0 ≤ j → mX10_turningBridges_h4 N u b f (I c) (I j) = some (I (c + trn rw d j)) := by
  have h2 := h.2.2.1
  intro d
  induction d with
  | zero =>
    intro f c j hf hd hj
    obtain ⟨f, rfl⟩ : ∃ g, f = g + 1 := ⟨f - 1, by omega⟩
    show mX10_turningBridges_4 N u b _ _ _ = _
    unfold mX10_turningBridges_4
    rw [x_size N h, Option.bind_some]
    simp (disch := omega) only [I_le]
    rw [if_pos (by omega)]
    unfold trn
    congr 2
    omega
  | succ d ih =>
    intro f c j hf hd hj
    obtain ⟨f, rfl⟩ : ∃ g, f = g + 1 := ⟨f - 1, by omega⟩
    have hb := h.row hj (by omega)
    show mX10_turningBridges_4 N u b _ _ _ = _
    unfold mX10_turningBridges_4 mX10_turningBridges_32 nm
    rw [x_size N h, Option.bind_some, x_get N h hj (by omega), Option.bind_some, bcl_cls hb, iv_fixed hb.rv]
    simp (disch := omega) only [I_le, I_lit, bo_0, Decidable.not_not, I_add]
    rw [if_neg (by omega)]
    have e : trn rw (d + 1) j = (if rowk rw j 0 = 3 then 0 else 1) + trn rw d (j + 1) := rfl
    rw [e]
    by_cases q : rowk rw j 0 = 3
    · rw [if_pos q, if_pos q, ih f c (j + 1) (by omega) (by omega) (by omega)]
      congr 2
      omega
    · rw [if_neg q, if_neg q, ih f (c + 1) (j + 1) (by omega) (by omega) (by omega)]
      congr 2
      omega
theorem m_turning (N : Nat) {v : MSt} {rw : Int → Int} {n fr wo sk se : Int} (h : Mst v rw n fr wo sk se) : ∀ (d f : Nat) (c j : Int), d < f → (d : Int) = n - j → 0 ≤ j → mM_turning_h4 N v f (I c) (I j) = some (I (c + trn rw d j)) := by
  obtain ⟨hr, hf, hf2, hn, hn1, hn2, hwo, hsk, hse, hwo2, hsk2, hse2, hv⟩ := h
  intro d
  induction d with
  | zero =>
    intro f c j hf hd hj
    obtain ⟨f, rfl⟩ : ∃ g, f = g + 1 := ⟨f - 1, by omega⟩
    show mM_turning_4 N v _ _ _ = _
    unfold mM_turning_4
    rw [hn]
    simp (disch := omega) only [I_le]
    rw [if_pos (by omega)]
    unfold trn
    congr 2
    omega
  | succ d ih =>
    intro f c j hf hd hj
    obtain ⟨f, rfl⟩ : ∃ g, f = g + 1 := ⟨f - 1, by omega⟩
    have hb := (hv j hj (by omega)).1
    show mM_turning_4 N v _ _ _ = _
    unfold mM_turning_4 mM_turning_31 nm
    have e0 : rw (10 * j) = rowk rw j 0 := by
      unfold rowk
      congr 1
      omega
    rw [hn]
    simp (disch := omega) only [I_le, I_lit, I_mul, rd_I, hr (10 * j) (by omega) (by omega), e0, I_eq, I_add]
    rw [if_neg (by omega)]
    have e : trn rw (d + 1) j = (if rowk rw j 0 = 3 then 0 else 1) + trn rw d (j + 1) := rfl
    rw [e]
    by_cases q : rowk rw j 0 = 3
    · rw [if_neg (fun g => g q), if_pos q, ih f _ (j + 1) (by omega) (by omega) (by omega)]
      congr 2
      omega
    · rw [if_pos q, if_neg q, ih f _ (j + 1) (by omega) (by omega) (by omega)]
      congr 2
      omega
theorem count_of {u : USt} {b : BSt} {v : MSt} (h : InvX u b v) (y : Int) (y1 : -2147483648 ≤ y) (y2 : y < 2147483648) : ∃ r : Int32, mX10_count NF u b (I y) = some r ∧ mM_countOf NF v (I y) = some r := by
  obtain ⟨n, rw, fr, se, hX, hM, hs, hP, hN, hG⟩ := h
  have hX' := hX
  have hM' := hM
  obtain ⟨h1, h2, h3, h4, h5, h6⟩ := hX
  obtain ⟨hr, hf, hf2, hn, hn1, hn2, hr'⟩ := hM
  obtain ⟨p, p1, p2, p3, p4⟩ := hP
  obtain ⟨m, m1, m2, m3, m4⟩ := hN
  by_cases q0 : y < 0 ∨ 4 < y
  · unfold mX10_count mM_countOf
    rw [I_toInt y1 y2, if_pos q0, if_pos q0]
    exact ⟨_, rfl, rfl⟩
  have := NF_big
  rcases (show y = 0 ∨ y = 1 ∨ y = 2 ∨ y = 3 ∨ y = 4 by omega) with rfl | rfl | rfl | rfl | rfl
  · exact ⟨I n, congrArg some h1, congrArg some hn⟩
  · refine ⟨I fr, ?_, congrArg some hf⟩
    change (if u.1 19 = 0 then mX10_count_56 NF u b 0 else mX10_count_56 NF u b 1) = _
    rw [h4]
    rcases h5 with rfl | rfl <;> rfl
  · exact ⟨I m, congrArg some m2, congrArg some m3⟩
  · exact ⟨I p, congrArg some p2, congrArg some p3⟩
  · refine ⟨I (0 + trn rw n.toNat 0), ?_, ?_⟩
    · change (mX10_turningBridges NF u b).bind (fun r => some r) = _
      unfold mX10_turningBridges
      rw [show (0 : Int32) = I 0 from rfl, x_turning NF hX' n.toNat NF 0 0 (by omega) (by omega) (by omega)]
      rfl
    · change (mM_turning NF v).bind (fun r => some r) = _
      unfold mM_turning
      rw [show (0 : Int32) = I 0 from rfl, m_turning NF hM' n.toNat NF 0 0 (by omega) (by omega) (by omega)]
      rfl
theorem pu_count : Pu_count InvX := by
  intro u b v a1 h
  obtain ⟨y, rfl, y1, y2⟩ := I_ex a1
  obtain ⟨r, e1, e2⟩ := count_of h y y1 y2
  refine ⟨r, e1, ?_, h⟩
  unfold mM_count
  rw [e2]
  rfl
