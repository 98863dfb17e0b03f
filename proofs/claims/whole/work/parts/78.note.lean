theorem J_lit (n : Nat) : (OfNat.ofNat n : Int32) = I (OfNat.ofNat n) := id rfl
theorem K_lit (n : Nat) : (OfNat.ofNat n : Int64) = Lg (OfNat.ofNat n) := id rfl
def nf4 (f : Nat → Int32) (m : Nat) (a t c w : Int32) : Nat → Int32 := upd (upd (upd (upd f (4 * m) a) (4 * m + 1) t) (4 * m + 2) c) (4 * m + 3) w
theorem nf4_0 (f : Nat → Int32) (m : Nat) (a t c w : Int32) : nf4 f m a t c w (4 * m) = a ∧ nf4 f m a t c w (4 * m + 1) = t ∧ nf4 f m a t c w (4 * m + 2) = c ∧ nf4 f m a t c w (4 * m + 3) = w := by
  unfold nf4
  refine ⟨?_, ?_, ?_, ?_⟩
  · rw [ud_ne (by omega), ud_ne (by omega), ud_ne (by omega), ud_eq]
  · rw [ud_ne (by omega), ud_ne (by omega), ud_eq]
  · rw [ud_ne (by omega), ud_eq]
  · rw [ud_eq]
theorem nf4_lt {f : Nat → Int32} {m j : Nat} {a t c w : Int32} (h : j < 4 * m) : nf4 f m a t c w j = f j := by
  unfold nf4
  rw [ud_ne (by omega), ud_ne (by omega), ud_ne (by omega), ud_ne (by omega)]
theorem nf4_c {f g : Nat → Int32} {m : Nat} {a t c w : Int32} {j : Nat} (h : f j = g j) : nf4 f m a t c w j = nf4 g m a t c w j := by
  unfold nf4 upd
  simp only [h]
theorem NoteR_add {f : Nat → Int32} {m : Nat} {a t c w : Int} (h : NoteR f m) (ha : 0 ≤ a ∧ a < 8) (ht : 0 ≤ t ∧ t ≤ 99) (hc : 0 ≤ c ∧ c < 8) (hw : t ≤ w) (hw2 : w ≤ t + 400) : NoteR (nf4 f m (I a) (I t) (I c) (I w)) (m + 1) := by
  intro j hj
  by_cases q : j = m
  · subst q
    obtain ⟨e0, e1, e2, e3⟩ := nf4_0 f j (I a) (I t) (I c) (I w)
    exact ⟨a, t, c, w, e0, e1, e2, e3, ha, ht, hc, hw, hw2⟩
  · rw [nf4_lt (by omega), nf4_lt (by omega), nf4_lt (by omega), nf4_lt (by omega)]
    exact h j (by omega)
theorem wrX_2 {α : Type} {z : Int} {k : Nat → Option α} (h1 : 0 ≤ z) (h2 : z < 20) : wrX 2 (I z) k = k z.toNat := wrX_I rfl h1 h2 (by omega)
theorem rdX_2 {α : Type} {u : USt} {z : Int} {k : Int32 → Option α} (h1 : 0 ≤ z) (h2 : z < 20) : rdX u 2 (I z) k = k (u.2 2 z.toNat) := rdX_I rfl h1 h2 (by omega)
theorem wrX_4 {α : Type} {z : Int} {k : Nat → Option α} (h1 : 0 ≤ z) (h2 : z < 3) : wrX 4 (I z) k = k z.toNat := wrX_I rfl h1 h2 (by omega)
theorem rdX_4 {α : Type} {u : USt} {z : Int} {k : Int32 → Option α} (h1 : 0 ≤ z) (h2 : z < 3) : rdX u 4 (I z) k = k (u.2 4 z.toNat) := rdX_I rfl h1 h2 (by omega)
theorem wrX_7 {α : Type} {z : Int} {k : Nat → Option α} (h1 : 0 ≤ z) (h2 : z < 24) : wrX 7 (I z) k = k z.toNat := wrX_I rfl h1 h2 (by omega)
theorem rdX_7 {α : Type} {u : USt} {z : Int} {k : Int32 → Option α} (h1 : 0 ≤ z) (h2 : z < 24) : rdX u 7 (I z) k = k (u.2 7 z.toNat) := rdX_I rfl h1 h2 (by omega)
theorem wrX_9 {α : Type} {z : Int} {k : Nat → Option α} (h1 : 0 ≤ z) (h2 : z < 10) : wrX 9 (I z) k = k z.toNat := wrX_I rfl h1 h2 (by omega)
theorem rdX_9 {α : Type} {u : USt} {z : Int} {k : Int32 → Option α} (h1 : 0 ≤ z) (h2 : z < 10) : rdX u 9 (I z) k = k (u.2 9 z.toNat) := rdX_I rfl h1 h2 (by omega)
theorem wrX_11 {α : Type} {z : Int} {k : Nat → Option α} (h1 : 0 ≤ z) (h2 : z < 24) : wrX 11 (I z) k = k z.toNat := wrX_I rfl h1 h2 (by omega)
theorem rdX_11 {α : Type} {u : USt} {z : Int} {k : Int32 → Option α} (h1 : 0 ≤ z) (h2 : z < 24) : rdX u 11 (I z) k = k (u.2 11 z.toNat) := rdX_I rfl h1 h2 (by omega)
theorem wrX_14 {α : Type} {z : Int} {k : Nat → Option α} (h1 : 0 ≤ z) (h2 : z < 10) : wrX 14 (I z) k = k z.toNat := wrX_I rfl h1 h2 (by omega)
theorem rdX_14 {α : Type} {u : USt} {z : Int} {k : Int32 → Option α} (h1 : 0 ≤ z) (h2 : z < 10) : rdX u 14 (I z) k = k (u.2 14 z.toNat) := rdX_I rfl h1 h2 (by omega)
theorem wrX_15 {α : Type} {z : Int} {k : Nat → Option α} (h1 : 0 ≤ z) (h2 : z < 10) : wrX 15 (I z) k = k z.toNat := wrX_I rfl h1 h2 (by omega)
theorem rdX_15 {α : Type} {u : USt} {z : Int} {k : Int32 → Option α} (h1 : 0 ≤ z) (h2 : z < 10) : rdX u 15 (I z) k = k (u.2 15 z.toNat) := rdX_I rfl h1 h2 (by omega)
theorem wrX_17 {α : Type} {z : Int} {k : Nat → Option α} (h1 : 0 ≤ z) (h2 : z < 8) : wrX 17 (I z) k = k z.toNat := wrX_I rfl h1 h2 (by omega)
theorem rdX_17 {α : Type} {u : USt} {z : Int} {k : Int32 → Option α} (h1 : 0 ≤ z) (h2 : z < 8) : rdX u 17 (I z) k = k (u.2 17 z.toNat) := rdX_I rfl h1 h2 (by omega)
theorem wrX_19 {α : Type} {z : Int} {k : Nat → Option α} (h1 : 0 ≤ z) (h2 : z < 610) : wrX 19 (I z) k = k z.toNat := wrX_I rfl h1 h2 (by omega)
theorem rdX_19 {α : Type} {u : USt} {z : Int} {k : Int32 → Option α} (h1 : 0 ≤ z) (h2 : z < 610) : rdX u 19 (I z) k = k (u.2 19 z.toNat) := rdX_I rfl h1 h2 (by omega)
theorem wrX_20 {α : Type} {z : Int} {k : Nat → Option α} (h1 : 0 ≤ z) (h2 : z < 488) : wrX 20 (I z) k = k z.toNat := wrX_I rfl h1 h2 (by omega)
theorem rdX_20 {α : Type} {u : USt} {z : Int} {k : Int32 → Option α} (h1 : 0 ≤ z) (h2 : z < 488) : rdX u 20 (I z) k = k (u.2 20 z.toNat) := rdX_I rfl h1 h2 (by omega)
theorem wrX_21 {α : Type} {z : Int} {k : Nat → Option α} (h1 : 0 ≤ z) (h2 : z < 488) : wrX 21 (I z) k = k z.toNat := wrX_I rfl h1 h2 (by omega)
theorem rdX_21 {α : Type} {u : USt} {z : Int} {k : Int32 → Option α} (h1 : 0 ≤ z) (h2 : z < 488) : rdX u 21 (I z) k = k (u.2 21 z.toNat) := rdX_I rfl h1 h2 (by omega)
theorem wrX_22 {α : Type} {z : Int} {k : Nat → Option α} (h1 : 0 ≤ z) (h2 : z < 488) : wrX 22 (I z) k = k z.toNat := wrX_I rfl h1 h2 (by omega)
theorem rdX_22 {α : Type} {u : USt} {z : Int} {k : Int32 → Option α} (h1 : 0 ≤ z) (h2 : z < 488) : rdX u 22 (I z) k = k (u.2 22 z.toNat) := rdX_I rfl h1 h2 (by omega)
theorem wrX_23 {α : Type} {z : Int} {k : Nat → Option α} (h1 : 0 ≤ z) (h2 : z < 488) : wrX 23 (I z) k = k z.toNat := wrX_I rfl h1 h2 (by omega)
theorem rdX_23 {α : Type} {u : USt} {z : Int} {k : Int32 → Option α} (h1 : 0 ≤ z) (h2 : z < 488) : rdX u 23 (I z) k = k (u.2 23 z.toNat) := rdX_I rfl h1 h2 (by omega)
theorem wrX_24 {α : Type} {z : Int} {k : Nat → Option α} (h1 : 0 ≤ z) (h2 : z < 8) : wrX 24 (I z) k = k z.toNat := wrX_I rfl h1 h2 (by omega)
theorem rdX_24 {α : Type} {u : USt} {z : Int} {k : Int32 → Option α} (h1 : 0 ≤ z) (h2 : z < 8) : rdX u 24 (I z) k = k (u.2 24 z.toNat) := rdX_I rfl h1 h2 (by omega)
theorem wrX_25 {α : Type} {z : Int} {k : Nat → Option α} (h1 : 0 ≤ z) (h2 : z < 8) : wrX 25 (I z) k = k z.toNat := wrX_I rfl h1 h2 (by omega)
theorem rdX_25 {α : Type} {u : USt} {z : Int} {k : Int32 → Option α} (h1 : 0 ≤ z) (h2 : z < 8) : rdX u 25 (I z) k = k (u.2 25 z.toNat) := rdX_I rfl h1 h2 (by omega)
theorem x_isFull (N : Nat) {u : USt} {m : Nat} (h : u.1 11 = I m) (hm : m ≤ 6) : mX5_isFull_6 N u = some (I (bo (m = 6))) := by
  unfold mX5_isFull_6 mX5_isFull_6_14
  rw [h]
  simp (disch := omega) only [I_lit, I_lt]
  unfold bo
  (repeat' split) <;> first | rfl | (exfalso; omega)
theorem va_up_2 {α : Type} (f : Nat → α) (k : Nat) (x y : α) : va_up (va_up f k x) k y = va_up f k y := by
  funext j
  unfold va_up
  split <;> rfl
theorem x_add (N : Nat) {u : USt} {m : Nat} (h : u.1 11 = I m) (hm : m < 6) (a t c w : Int32) : mX5_add_6 N u a t c w = some (I ((m + 1 : Nat) : Int), siX (sfX u 7 (nf4 (u.2 7) m a t c w)) 11 (I ((m + 1 : Nat) : Int))) := by
  unfold mX5_add_6 nm
  rw [x_isFull N h (by omega), Option.bind_some, bo_f (by omega), if_pos (by decide), h]
  simp (disch := omega) only [I_lit, I_mul, I_add, wrX_7, h, vu_eq, va_up_2]
  have g0 : ((m : Int) * 4 + 0).toNat = 4 * m := by omega
  have g1 : ((m : Int) * 4 + 1).toNat = 4 * m + 1 := by omega
  have g2 : ((m : Int) * 4 + 2).toNat = 4 * m + 2 := by omega
  have g3 : ((m : Int) * 4 + 3).toNat = 4 * m + 3 := by omega
  rw [g0, g1, g2, g3]
  unfold siX sfX saX
  simp only [vu_eq, va_up_2]
  rfl
theorem pu_note : Pu_note InvX := by
  intro u b v a1 a2 a3 a4 h
  have hh := h
  obtain ⟨a, rfl, z1, z2⟩ := I_ex a1
  obtain ⟨t, rfl, y1, y2⟩ := I_ex a2
  obtain ⟨c, rfl, x1, x2⟩ := I_ex a3
  obtain ⟨w, rfl, w1, w2⟩ := I_ex a4
  obtain ⟨n, rw, fr, se, hX, hM, hs, hP, ⟨m, m1, m2, m3, m4, m5⟩, hG⟩ := h
  unfold mX10_note mX10_note_14 mX10_note_27 mX10_note_46 mM_note mM_note_14 mM_note_46
  rw [x_isIslet NF z1 z2, x_isIslet NF x1 x2, m_isIslet NF z1 z2, m_isIslet NF x1 x2]
  simp (disch := omega) only [Option.bind_some, I_lit, bo_0, Decidable.not_not, I_lt, I_le, I_add, I_64, Lg_lit, m_in]
  by_cases q1 : 0 ≤ a ∧ a < 8
  · rw [if_neg (not_not_intro q1), if_neg (not_not_intro q1)]
    by_cases q2 : 0 ≤ c ∧ c < 8
    · rw [if_pos q2, if_pos q2]
      by_cases q3 : 0 ≤ t ∧ t ≤ 99
      · rw [if_neg (by omega), if_pos (by omega), if_neg (not_not_intro q3)]
        by_cases q4 : t ≤ w ∧ w ≤ t + 400
        · rw [if_neg (by omega), if_pos (by omega), if_pos q4]
          rw [x_isFull NF m2 m1, Option.bind_some, m3]
          by_cases q5 : m = 6
          · rw [bo_t q5]
            exact ⟨_, _, _, (if_neg (show ¬ I 1 = I 0 by decide)).trans rfl, (if_neg (show ¬ ¬ I (m : Int) = I 6 by rw [I_eq (by omega) (by omega) (by omega) (by omega)]; omega)).trans rfl, hh⟩
          · rw [bo_f q5, x_add NF m2 (by omega)]
            have k0 : (4 * (m : Int)).toNat = 4 * m := by omega
            have k1 : (4 * (m : Int) + 1).toNat = 4 * m + 1 := by omega
            have k2 : (4 * (m : Int) + 2).toNat = 4 * m + 2 := by omega
            have k3 : (4 * (m : Int) + 3).toNat = 4 * m + 3 := by omega
            refine ⟨_, _, siM (saM (saM (saM (saM v 22 (4 * m) (I a)) 22 (4 * m + 1) (I t)) 22 (4 * m + 2) (I c)) 22 (4 * m + 3) (I w)) 21 (I (m + 1)), (if_pos (show I 0 = I 0 from rfl)).trans rfl, (if_pos (show ¬ I (m : Int) = I 6 by rw [I_eq (by omega) (by omega) (by omega) (by omega)]; omega)).trans ?_, n, rw, fr, se, hX, hM, hs, hP, ⟨m + 1, by omega, rfl, rfl, fun j hj => ?_, ?_⟩, hG⟩
            · simp (disch := omega) only [nm, I_mul, I_add, wr_I, m3]
              rw [k0, k1, k2, k3]
              rfl
            · have e : (saM (saM (saM (saM v 22 (4 * m) (I a)) 22 (4 * m + 1) (I t)) 22 (4 * m + 2) (I c)) 22 (4 * m + 3) (I w)).2.1 22 = nf4 (v.2.1 22) m (I a) (I t) (I c) (I w) := by
                unfold saM nf4
                simp only [vu_eq]
              exact (nf4_c (m4 j hj)).trans (congrFun e j).symm
            · exact NoteR_add m5 q1 q3 q2 q4.1 q4.2
        · rw [if_neg q4]
          refine ⟨_, _, _, ?_, rfl, hh⟩
          (repeat' split) <;> first | rfl | (exfalso; omega)
      · rw [if_pos q3]
        refine ⟨_, _, _, ?_, rfl, hh⟩
        (repeat' split) <;> first | rfl | (exfalso; omega)
    · rw [if_neg q2, if_neg q2]
      exact ⟨_, _, _, rfl, rfl, hh⟩
  · rw [if_pos q1, if_pos q1]
    exact ⟨_, _, _, rfl, rfl, hh⟩
/-- islet i is joined in the minute t by one of the next d bridges -/
def jnd (fr : Int) (rw : Int → Int) (i t : Int) : Nat → Int → Int
  | 0, _ => 0
  | d + 1, j => if jn fr (rowk rw j) t ≠ -1 ∧ (jn fr (rowk rw j) t = i ∨ rowk rw j 1 = i) then 1 else jnd fr rw i t d (j + 1)
theorem jnd_b (fr : Int) (rw : Int → Int) (i t : Int) : ∀ (d : Nat) (j : Int), jnd fr rw i t d j = 0 ∨ jnd fr rw i t d j = 1 := by
  intro d
  induction d with
  | zero => exact fun j => .inl rfl
  | succ d ih =>
    intro j
    unfold jnd
    split
    · exact .inr rfl
    · exact ih _
theorem x_isJoined (N : Nat) {u : USt} {b : BSt} {rw : Int → Int} {n fr : Int} (h : Xst u b rw n fr) (hs : Shf rw n) {i t : Int} (i1 : 0 ≤ i) (i2 : i < 8) (t1 : 0 ≤ t) (t2 : t ≤ 10000) : ∀ (d f : Nat) (j : Int), d < f → (d : Int) = n - j → 0 ≤ j → mX10_isJoined_h2 N u b f (I i) (I t) (I j) = some (I (jnd fr rw i t d j)) := by
  have h2 := h.2.2.1
  have h4 := h.2.2.2.1
  have h5 := h.2.2.2.2.1
  intro d
  induction d with
  | zero =>
    intro f j hf hd hj
    obtain ⟨f, rfl⟩ : ∃ g, f = g + 1 := ⟨f - 1, by omega⟩
    show mX10_isJoined_2 N u b _ _ _ _ = _
    unfold mX10_isJoined_2
    rw [x_size N h, Option.bind_some]
    simp (disch := omega) only [I_le]
    rw [if_pos (by omega)]
    rfl
  | succ d ih =>
    intro f j hf hd hj
    obtain ⟨f, rfl⟩ : ∃ g, f = g + 1 := ⟨f - 1, by omega⟩
    have hb := h.row hj (by omega)
    have h8 := hs j hj (by omega)
    have hjb := jn_b (fr := fr) hb.rv t
    have hp := hb.rv.2.1
    show mX10_isJoined_2 N u b _ _ _ _ = _
    unfold mX10_isJoined_2 mX10_isJoined_65 mX10_isJoined_67
    rw [x_size N h, Option.bind_some, x_get N h hj (by omega), Option.bind_some, hb.skip, hb.f5, I_add, h4, xendAt N hb h5 (by omega) (by omega), Option.bind_some, hb.f0, ← jnm_jn]
    simp (disch := omega) only [I_le, I_lit, I_neg, I_eq, I_add]
    rw [if_neg (by omega), ih f (j + 1) (by omega) (by omega) (by omega)]
    have e : jnd fr rw i t (d + 1) j = if jn fr (rowk rw j) t ≠ -1 ∧ (jn fr (rowk rw j) t = i ∨ rowk rw j 1 = i) then 1 else jnd fr rw i t d (j + 1) := rfl
    rw [e]
    (repeat' split) <;> first | rfl | (exfalso; omega)
/-- minutes in which islet i is not joined, of the next d -/
def apt (fr : Int) (rw : Int → Int) (n : Nat) (i : Int) : Nat → Int → Int
  | 0, _ => 0
  | d + 1, t => (1 - jnd fr rw i t n 0) + apt fr rw n i d (t + 1)
theorem x_apart {u : USt} {b : BSt} {rw : Int → Int} {n fr : Int} (h : Xst u b rw n fr) (hs : Shf rw n) {i a m : Int} (i1 : 0 ≤ i) (i2 : i < 8) (a1 : 0 ≤ a) (a2 : a ≤ 999) (m1 : 0 ≤ m) (m2 : m ≤ 400) : ∀ (d f : Nat) (c t : Int), d < f → (d : Int) = a + m - t → 0 ≤ t → mX10_minutesApart_h6 NF u b f (I i) (I a) (I m) (I c) (I t) = some (I (c + apt fr rw n.toNat i d t)) := by
  have hn1 := h.2.1
  have hn2 := h.2.2.1
  have hb := NF_big
  intro d
  induction d with
  | zero =>
    intro f c t hf hd hj
    obtain ⟨f, rfl⟩ : ∃ g, f = g + 1 := ⟨f - 1, by omega⟩
    show mX10_minutesApart_6 NF u b _ _ _ _ _ _ = _
    unfold mX10_minutesApart_6
    rw [I_add]
    simp (disch := omega) only [I_le]
    rw [if_pos (by omega)]
    unfold apt
    congr 2
    omega
  | succ d ih =>
    intro f c t hf hd hj
    obtain ⟨f, rfl⟩ : ∃ g, f = g + 1 := ⟨f - 1, by omega⟩
    show mX10_minutesApart_6 NF u b _ _ _ _ _ _ = _
    unfold mX10_minutesApart_6 mX10_minutesApart_27 mX10_isJoined
    rw [I_add]
    rw [show mX10_isJoined_h2 NF u b NF (I i) (I t) 0 = some (I (jnd fr rw i t n.toNat 0)) from x_isJoined NF h hs i1 i2 hj (by omega) n.toNat NF 0 (by omega) (by omega) (by omega)]
    have hq := jnd_b fr rw i t n.toNat 0
    simp (disch := omega) only [I_le, Option.bind_some, I_lit, I_eq, I_add]
    rw [if_neg (by omega)]
    have e : apt fr rw n.toNat i (d + 1) t = (1 - jnd fr rw i t n.toNat 0) + apt fr rw n.toNat i d (t + 1) := rfl
    rw [e]
    by_cases q : jnd fr rw i t n.toNat 0 = 0
    · rw [if_neg (not_not_intro q), ih f _ (t + 1) (by omega) (by omega) (by omega)]
      congr 2
      omega
    · rw [if_pos q, ih f _ (t + 1) (by omega) (by omega) (by omega)]
      congr 2
      omega
theorem m_cut20 (N : Nat) {v : MSt} {rw : Int → Int} {n fr se : Int} (h : Mst v rw n fr (-1) (-1) se) {i a m c t : Int} (k6 : Int32 → Int32 → Int32 → Int32 → Int32 → Option Int32) (i1 : 0 ≤ i) (i2 : i < 8) (t1 : 0 ≤ t) (t2 : t ≤ 10000) : ∀ (d f : Nat) (g j : Int), d < f → (d : Int) = n - j → 0 ≤ j → (g = 0 ∨ g = 1) → mM_cutOf_h20 N v k6 f (I i) (I a) (I m) (I c) (I t) (I g) (I j) = k6 (I i) (I a) (I m) (I (c + (1 - (if g = 1 then 1 else jnd fr rw i t d j)))) (I (t + 1)) := by
  have h' := h
  obtain ⟨hr, hf, hf2, hn, hn1, hn2, hwo, hsk, hse, hwo2, hsk2, hse2, hv⟩ := h
  intro d
  induction d with
  | zero =>
    intro f g j hf hd hj hg
    obtain ⟨f, rfl⟩ : ∃ g, f = g + 1 := ⟨f - 1, by omega⟩
    show mM_cutOf_20 N v _ _ _ _ _ _ _ _ _ = _
    unfold mM_cutOf_20 mM_cutOf_97 nm
    rw [hn]
    simp (disch := omega) only [I_le, I_lit, I_eq, I_add]
    rw [if_pos (by omega)]
    unfold jnd
    rcases hg with rfl | rfl <;> rfl
  | succ d ih =>
    intro f g j hf hd hj hg
    obtain ⟨f, rfl⟩ : ∃ g, f = g + 1 := ⟨f - 1, by omega⟩
    have hb := hv j hj (by omega)
    have hjb := jn_b (fr := fr) hb t
    have hp := hb.2.1
    show mM_cutOf_20 N v _ _ _ _ _ _ _ _ _ = _
    unfold mM_cutOf_20 mM_cutOf_72 mM_cutOf_76 mM_cutOf_77
    have e1 : rw (10 * j + 1) = rowk rw j 1 := rfl
    rw [hn, mM_joinsNow_I N h' hj (by omega) t1 (by omega), jnW_n hj]
    simp (disch := omega) only [I_le, I_lit, I_mul, I_add, rd_I, hr (10 * j + 1) (by omega) (by omega), e1, I_eq, I_neg, Option.bind_some]
    rw [if_neg (by omega), ih f 1 (j + 1) (by omega) (by omega) (by omega) (.inr rfl), ih f 0 (j + 1) (by omega) (by omega) (by omega) (.inl rfl)]
    have e : jnd fr rw i t (d + 1) j = if jn fr (rowk rw j) t ≠ -1 ∧ (jn fr (rowk rw j) t = i ∨ rowk rw j 1 = i) then 1 else jnd fr rw i t d (j + 1) := rfl
    rw [e]
    rcases hg with rfl | rfl
    · rw [if_neg (by omega)]
      (repeat' split) <;> first | rfl | (exfalso; omega)
    · rw [if_pos (by omega)]
      rfl
theorem m_cutOf {v : MSt} {rw : Int → Int} {n fr se : Int} (h : Mst v rw n fr (-1) (-1) se) {i a m : Int} (i1 : 0 ≤ i) (i2 : i < 8) (a1 : 0 ≤ a) (a2 : a ≤ 999) (m1 : 0 ≤ m) (m2 : m ≤ 400) : ∀ (d f : Nat) (c t : Int), d < f → (d : Int) = a + m - t → 0 ≤ t → mM_cutOf_h6 NF v f (I i) (I a) (I m) (I c) (I t) = some (I (c + apt fr rw n.toNat i d t)) := by
  have hb := NF_big
  have hn1 := h.2.2.2.2.1
  have hn2 := h.2.2.2.2.2.1
  intro d
  induction d with
  | zero =>
    intro f c t hf hd hj
    obtain ⟨f, rfl⟩ : ∃ g, f = g + 1 := ⟨f - 1, by omega⟩
    show mM_cutOf_6 NF v _ _ _ _ _ _ = _
    unfold mM_cutOf_6
    rw [I_add]
    simp (disch := omega) only [I_le]
    rw [if_pos (by omega)]
    unfold apt
    congr 2
    omega
  | succ d ih =>
    intro f c t hf hd hj
    obtain ⟨f, rfl⟩ : ∃ g, f = g + 1 := ⟨f - 1, by omega⟩
    show mM_cutOf_6 NF v _ _ _ _ _ _ = _
    unfold mM_cutOf_6
    rw [I_add]
    simp (disch := omega) only [I_le]
    rw [if_neg (by omega)]
    rw [show mM_cutOf_h20 NF v (mM_cutOf_h6 NF v f) NF (I i) (I a) (I m) (I c) (I t) 0 0 = _ from m_cut20 NF h (mM_cutOf_h6 NF v f) i1 i2 hj (by omega) n.toNat NF 0 0 (by omega) (by omega) (by omega) (.inl rfl)]
    rw [if_neg (by omega), ih f _ (t + 1) (by omega) (by omega) (by omega)]
    have e : apt fr rw n.toNat i (d + 1) t = (1 - jnd fr rw i t n.toNat 0) + apt fr rw n.toNat i d (t + 1) := rfl
    rw [e]
    congr 2
    omega
theorem pu_cut : Pu_cut InvX := by
  intro u b v a1 a2 a3 h
  have hh := h
  have hb := NF_big
  obtain ⟨i, rfl, i1, i2⟩ := I_ex a1
  obtain ⟨a, rfl, y1, y2⟩ := I_ex a2
  obtain ⟨m, rfl, x1, x2⟩ := I_ex a3
  obtain ⟨n, rw, fr, se, hX, hM, hs, hP, hN, hG⟩ := h
  unfold mX10_cut mX10_cut_29 mM_cut mM_cut_39 mM_cut_41 mM_cutOf mX10_minutesApart
  rw [x_isIslet NF i1 i2, m_isIslet NF i1 i2, x_isMinute NF y1 y2, m_isMinute NF y1 y2]
  simp (disch := omega) only [Option.bind_some, I_lit, bo_0, Decidable.not_not, I_lt, I_le, I_64, Lg_lit, m_in]
  by_cases q1 : 0 ≤ i ∧ i < 8
  · rw [if_pos q1, if_pos q1]
    by_cases q2 : 0 ≤ a ∧ a ≤ 999
    · rw [if_neg (not_not_intro q2), if_neg (not_not_intro q2)]
      by_cases q3 : 1 ≤ m ∧ m ≤ 400
      · rw [if_neg (by omega), if_pos (by omega), if_neg (not_not_intro q3)]
        rw [x_apart hX hs q1.1 q1.2 q2.1 q2.2 (by omega) (by omega) m.toNat NF 0 a (by omega) (by omega) (by omega), m_cutOf hM q1.1 q1.2 q2.1 q2.2 (by omega) (by omega) m.toNat NF 0 a (by omega) (by omega) (by omega)]
        exact ⟨_, rfl, rfl, hh⟩
      · rw [if_pos q3]
        refine ⟨_, ?_, rfl, hh⟩
        (repeat' split) <;> first | rfl | (exfalso; omega)
    · rw [if_pos q2, if_pos q2]
      exact ⟨_, rfl, rfl, hh⟩
  · rw [if_neg q1, if_neg q1]
    exact ⟨_, rfl, rfl, hh⟩
