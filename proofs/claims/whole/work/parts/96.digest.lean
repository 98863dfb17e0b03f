def hst (h : Int64) (z : Int) : Int64 := 31 * h + Int32.toInt64 (I z)
theorem x_with (N : Nat) (h x : Int64) : mX10_with N h x = some (31 * h + x) := rfl
theorem m_say (N : Nat) (w : MSt) (h x : Int64) : mM_say N (shM w h) x = some (shM w (31 * h + x)) := rfl
theorem InvX.sh {u : USt} {b : BSt} {v : MSt} (h : InvX u b v) (x : Int64) : InvX u b (shM v x) := h.keep (KX.refl u) ⟨fun _ _ => rfl, fun _ _ => rfl⟩
theorem Mst.sh {v : MSt} {rw : Int → Int} {n fr wo sk se : Int} (h : Mst v rw n fr wo sk se) (x : Int64) : Mst (shM v x) rw n fr wo sk se := h
def tlh (fr : Int) (r : Int → Int) : Nat → Int → Int64 → Int64
  | 0, _, h => h
  | d + 1, y, h => tlh fr r d (y + 1) (hst h (tell fr r y))
def jlh (fr : Int) (r : Int → Int) (h : Int64) : Int64 := hst (hst (hst (hst h (jn fr r 0)) (ls fr r 0)) (jn fr r 7)) (ls fr r 7)
def brh (fr : Int) (r : Int → Int) (h : Int64) : Int64 := jlh fr r (tlh fr r 3 10 (tlh fr r 8 0 h))
theorem x_wb38 {u : USt} {b : BSt} {rw : Int → Int} {n fr k : Int} (hX : Xst u b rw n fr) (hs : Shf rw n) (k1 : 0 ≤ k) (k2 : k < n) : ∀ (d f : Nat) (y : Int) (h : Int64), d < f → (d : Int) = 13 - y → 10 ≤ y → mX10_withBridge_h38 NF u b f k.toNat h (I y) = some (jlh fr (rowk rw k) (tlh fr (rowk rw k) d y h)) := by
  have hb := NF_big
  have hB := hX.row k1 k2
  have hfr := hX.2.2.2.2.1
  have u19 := hX.2.2.2.1
  have h8 := hs k k1 k2
  intro d
  induction d with
  | zero =>
    intro f y h hf hd hy
    obtain ⟨f, rfl⟩ : ∃ g, f = g + 1 := ⟨f - 1, by omega⟩
    show mX10_withBridge_38 NF _ _ _ _ _ _ = _
    unfold mX10_withBridge_38
    rw [show (12 : Int32) = I 12 from rfl, if_pos (by rw [I_lt (by omega) (by omega) (by omega) (by omega)]; omega)]
    have key : ∀ g h, mX10_withBridge_h69 NF u b (g + 1 + 1 + 1) k.toNat h (I 0) = some (jlh fr (rowk rw k) h) := by
      intro g h
      have st : ∀ g h t, 0 ≤ t → t ≤ 7 → mX10_withBridge_h69 NF u b (g + 1) k.toNat h (I t) = mX10_withBridge_h69 NF u b g k.toNat (hst (hst h (jn fr (rowk rw k) t)) (ls fr (rowk rw k) t)) (I (t + 7)) := by
        intro g h t t1 t2
        show mX10_withBridge_69 NF _ _ _ _ _ _ = _
        unfold mX10_withBridge_69
        rw [show (7 : Int32) = I 7 from rfl, if_neg (by rw [I_lt (by omega) (by omega) (by omega) (by omega)]; omega), hB.f5, I_add, u19, xendAt NF hB hfr (by omega) (by omega), Option.bind_some, x_with, Option.bind_some, hB.f5, I_add, xstands NF hB hfr (by omega) (by omega), Option.bind_some, x_with, Option.bind_some, I_add, ← jnm_jn, ← lsm_ls hB.rv]
        rfl
      rw [st _ _ 0 (by omega) (by omega), st _ _ (0 + 7) (by omega) (by omega)]
      show mX10_withBridge_69 NF _ _ _ _ _ _ = _
      unfold mX10_withBridge_69
      rw [show (7 : Int32) = I 7 from rfl, if_pos (by rw [I_lt (by omega) (by omega) (by omega) (by omega)]; omega)]
      rfl
    obtain ⟨g, hg⟩ : ∃ g, NF = g + 1 + 1 + 1 := ⟨NF - 3, by omega⟩
    have := key g h
    rw [← hg] at this
    exact this
  | succ d ih =>
    intro f y h hf hd hy
    obtain ⟨f, rfl⟩ : ∃ g, f = g + 1 := ⟨f - 1, by omega⟩
    show mX10_withBridge_38 NF _ _ _ _ _ _ = _
    unfold mX10_withBridge_38
    rw [show (12 : Int32) = I 12 from rfl, if_neg (by rw [I_lt (by omega) (by omega) (by omega) (by omega)]; omega), x_told NF hX k1 k2 (by omega) (by omega), Option.bind_some, x_with, Option.bind_some, show I y + 1 = I (y + 1) from I_add y 1]
    exact ih f (y + 1) _ (by omega) (by omega) (by omega)
theorem x_wb6 {u : USt} {b : BSt} {rw : Int → Int} {n fr k : Int} (hX : Xst u b rw n fr) (hs : Shf rw n) (k1 : 0 ≤ k) (k2 : k < n) : ∀ (d f : Nat) (y : Int) (h : Int64), d < f → (d : Int) = 8 - y → 0 ≤ y → mX10_withBridge_h6 NF u b f k.toNat h (I y) = some (jlh fr (rowk rw k) (tlh fr (rowk rw k) 3 10 (tlh fr (rowk rw k) d y h))) := by
  have hb := NF_big
  intro d
  induction d with
  | zero =>
    intro f y h hf hd hy
    obtain ⟨f, rfl⟩ : ∃ g, f = g + 1 := ⟨f - 1, by omega⟩
    show mX10_withBridge_6 NF _ _ _ _ _ _ = _
    unfold mX10_withBridge_6
    rw [show (7 : Int32) = I 7 from rfl, if_pos (by rw [I_lt (by omega) (by omega) (by omega) (by omega)]; omega), show (10 : Int32) = I 10 from rfl]
    exact x_wb38 hX hs k1 k2 3 NF 10 h (by omega) (by omega) (by omega)
  | succ d ih =>
    intro f y h hf hd hy
    obtain ⟨f, rfl⟩ : ∃ g, f = g + 1 := ⟨f - 1, by omega⟩
    show mX10_withBridge_6 NF _ _ _ _ _ _ = _
    unfold mX10_withBridge_6
    rw [show (7 : Int32) = I 7 from rfl, if_neg (by rw [I_lt (by omega) (by omega) (by omega) (by omega)]; omega), x_told NF hX k1 k2 (by omega) (by omega), Option.bind_some, x_with, Option.bind_some, show I y + 1 = I (y + 1) from I_add y 1]
    exact ih f (y + 1) _ (by omega) (by omega) (by omega)
theorem m_sb2 {w : MSt} {rw : Int → Int} {n fr se k : Int} (hM : Mst w rw n fr (-1) (-1) se) (k1 : 0 ≤ k) (k2 : k < n) : ∀ (d f : Nat) (y : Int) (h : Int64), d < f → (d : Int) = 13 - y → 10 ≤ y → mM_sayBridge_h2 NF f (shM w h) (I k) (I y) = some (shM w (jlh fr (rowk rw k) (tlh fr (rowk rw k) d y h))) := by
  have hb := NF_big
  intro d
  induction d with
  | zero =>
    intro f y h hf hd hy
    obtain ⟨f, rfl⟩ : ∃ g, f = g + 1 := ⟨f - 1, by omega⟩
    show mM_sayBridge_2 NF _ _ _ _ = _
    unfold mM_sayBridge_2
    rw [show (13 : Int32) = I 13 from rfl, if_pos (by rw [I_le (by omega) (by omega) (by omega) (by omega)]; omega)]
    have key : ∀ g h, mM_sayBridge_h39 NF (g + 1 + 1 + 1) (shM w h) (I k) (I 0) = some (shM w (jlh fr (rowk rw k) h)) := by
      intro g h
      have st : ∀ g h t, 0 ≤ t → t ≤ 7 → mM_sayBridge_h39 NF (g + 1) (shM w h) (I k) (I t) = mM_sayBridge_h39 NF g (shM w (hst (hst h (jn fr (rowk rw k) t)) (ls fr (rowk rw k) t))) (I k) (I (t + 7)) := by
        intro g h t t1 t2
        show mM_sayBridge_39 NF _ _ _ _ = _
        unfold mM_sayBridge_39
        rw [show (8 : Int32) = I 8 from rfl, if_neg (by rw [I_le (by omega) (by omega) (by omega) (by omega)]; omega), mM_joinsNow_I NF (hM.sh h) k1 k2 t1 (by omega), Option.bind_some, m_say, Option.bind_some, mM_lastsNow_I NF (hM.sh _) k1 k2 t1 (by omega), Option.bind_some, m_say, Option.bind_some, jnW_n k1, lsW_n k1, show (7 : Int32) = I 7 from rfl, I_add]
        rfl
      rw [st _ _ 0 (by omega) (by omega), st _ _ (0 + 7) (by omega) (by omega)]
      show mM_sayBridge_39 NF _ _ _ _ = _
      unfold mM_sayBridge_39
      rw [show (8 : Int32) = I 8 from rfl, if_pos (by rw [I_le (by omega) (by omega) (by omega) (by omega)]; omega)]
      rfl
    obtain ⟨g, hg⟩ : ∃ g, NF = g + 1 + 1 + 1 := ⟨NF - 3, by omega⟩
    have := key g h
    rw [← hg] at this
    exact this
  | succ d ih =>
    intro f y h hf hd hy
    obtain ⟨f, rfl⟩ : ∃ g, f = g + 1 := ⟨f - 1, by omega⟩
    show mM_sayBridge_2 NF _ _ _ _ = _
    unfold mM_sayBridge_2 mM_sayBridge_20 mM_sayBridge_31
    rw [show (13 : Int32) = I 13 from rfl, if_neg (by rw [I_le (by omega) (by omega) (by omega) (by omega)]; omega), show (8 : Int32) = I 8 from rfl, if_neg (by rw [I_lt (by omega) (by omega) (by omega) (by omega)]; omega), show (9 : Int32) = I 9 from rfl, if_neg (by rw [I_le (by omega) (by omega) (by omega) (by omega)]; omega), m_tell NF (hM.sh h) k1 k2 (by omega) (by omega), Option.bind_some, m_say, Option.bind_some, show I y + 1 = I (y + 1) from I_add y 1]
    exact ih f (y + 1) _ (by omega) (by omega) (by omega)
theorem m_sb0 {w : MSt} {rw : Int → Int} {n fr se k : Int} (hM : Mst w rw n fr (-1) (-1) se) (k1 : 0 ≤ k) (k2 : k < n) : ∀ (d f : Nat) (y : Int) (h : Int64), d + 10 < f → (d : Int) = 8 - y → 0 ≤ y → mM_sayBridge_h2 NF f (shM w h) (I k) (I y) = some (shM w (jlh fr (rowk rw k) (tlh fr (rowk rw k) 3 10 (tlh fr (rowk rw k) d y h)))) := by
  have hb := NF_big
  intro d
  induction d with
  | zero =>
    intro f y h hf hd hy
    have ey : y = 8 := by omega
    subst ey
    obtain ⟨f, rfl⟩ : ∃ g, f = g + 1 + 1 := ⟨f - 2, by omega⟩
    have sk : ∀ g y, (y = 8 ∨ y = 9) → mM_sayBridge_h2 NF (g + 1) (shM w h) (I k) (I y) = mM_sayBridge_h2 NF g (shM w h) (I k) (I (y + 1)) := by
      intro g y hy
      show mM_sayBridge_2 NF _ _ _ _ = _
      unfold mM_sayBridge_2 mM_sayBridge_31
      rw [show (13 : Int32) = I 13 from rfl, if_neg (by rw [I_le (by omega) (by omega) (by omega) (by omega)]; omega), show (8 : Int32) = I 8 from rfl, if_neg (by rw [I_lt (by omega) (by omega) (by omega) (by omega)]; omega), show (9 : Int32) = I 9 from rfl, if_pos (by rw [I_le (by omega) (by omega) (by omega) (by omega)]; omega), show I y + 1 = I (y + 1) from I_add y 1]
    rw [sk _ 8 (.inl rfl), sk _ (8 + 1) (.inr rfl)]
    exact m_sb2 hM k1 k2 3 f 10 h (by omega) (by omega) (by omega)
  | succ d ih =>
    intro f y h hf hd hy
    obtain ⟨f, rfl⟩ : ∃ g, f = g + 1 := ⟨f - 1, by omega⟩
    show mM_sayBridge_2 NF _ _ _ _ = _
    unfold mM_sayBridge_2 mM_sayBridge_20 mM_sayBridge_31
    rw [show (13 : Int32) = I 13 from rfl, if_neg (by rw [I_le (by omega) (by omega) (by omega) (by omega)]; omega), show (8 : Int32) = I 8 from rfl, if_pos (by rw [I_lt (by omega) (by omega) (by omega) (by omega)]; omega), m_tell NF (hM.sh h) k1 k2 (by omega) (by omega), Option.bind_some, m_say, Option.bind_some, show I y + 1 = I (y + 1) from I_add y 1]
    exact ih f (y + 1) _ (by omega) (by omega) (by omega)
theorem dg_count {u : USt} {b : BSt} {w : MSt} (hI : InvX u b w) : ∀ (d f f' : Nat) (j : Int) (h : Int64), d < f → d < f' → (d : Int) = 5 - j → 0 ≤ j → ∃ r : Int64, mX10_digest_h217 NF b f u h (I j) = some (r, u) ∧ mM_digest_h135 NF f' (shM w h) (I j) = some (r, shM w r) := by
  intro d
  induction d with
  | zero =>
    intro f f' j h hf hf' hd hj
    obtain ⟨f, rfl⟩ : ∃ g, f = g + 1 := ⟨f - 1, by omega⟩
    obtain ⟨f', rfl⟩ : ∃ g, f' = g + 1 := ⟨f' - 1, by omega⟩
    refine ⟨h, ?_, ?_⟩
    · show mX10_digest_217 NF _ _ _ _ _ = _
      unfold mX10_digest_217
      rw [show (4 : Int32) = I 4 from rfl, if_pos (by rw [I_lt (by omega) (by omega) (by omega) (by omega)]; omega)]
    · show mM_digest_135 NF _ _ _ = _
      unfold mM_digest_135
      rw [show (5 : Int32) = I 5 from rfl, if_pos (by rw [I_le (by omega) (by omega) (by omega) (by omega)]; omega)]
  | succ d ih =>
    intro f f' j h hf hf' hd hj
    obtain ⟨f, rfl⟩ : ∃ g, f = g + 1 := ⟨f - 1, by omega⟩
    obtain ⟨f', rfl⟩ : ∃ g, f' = g + 1 := ⟨f' - 1, by omega⟩
    obtain ⟨c, c1, c2⟩ := count_of (hI.sh h) j (by omega) (by omega)
    obtain ⟨r, r1, r2⟩ := ih f f' (j + 1) (31 * h + Int32.toInt64 c) (by omega) (by omega) (by omega) (by omega)
    refine ⟨r, ?_, ?_⟩
    · show mX10_digest_217 NF _ _ _ _ _ = _
      unfold mX10_digest_217
      rw [show (4 : Int32) = I 4 from rfl, if_neg (by rw [I_lt (by omega) (by omega) (by omega) (by omega)]; omega), c1, Option.bind_some, x_with, Option.bind_some, show I j + 1 = I (j + 1) from I_add j 1, r1]
    · show mM_digest_135 NF _ _ _ = _
      unfold mM_digest_135
      rw [show (5 : Int32) = I 5 from rfl, if_neg (by rw [I_le (by omega) (by omega) (by omega) (by omega)]; omega), c2, Option.bind_some, m_say, Option.bind_some, show I j + 1 = I (j + 1) from I_add j 1, r2]
theorem dg_page {u : USt} {b : BSt} {w : MSt} (hI : InvX u b w) {p : Nat} (hp : p ≤ 20) (u0 : u.1 0 = I p) (w1 : w.1 1 = I p) (hc : ∀ j, j < p → ∃ c : Int, u.2 2 j = I c ∧ w.2.1 0 j = I c ∧ 1 ≤ c ∧ c ≤ 126) : ∀ (d f f' j : Nat) (h : Int64), d < f → d < f' → d + j = p → ∃ r : Int64, mX10_digest_h184 NF b f u h (I (j : Int)) = some (r, u) ∧ mM_digest_h108 NF f' (shM w h) (I (j : Int)) = some (r, shM w r) := by
  have hb := NF_big
  intro d
  induction d with
  | zero =>
    intro f f' j h hf hf' hd
    obtain ⟨f, rfl⟩ : ∃ g, f = g + 1 := ⟨f - 1, by omega⟩
    obtain ⟨f', rfl⟩ : ∃ g, f' = g + 1 := ⟨f' - 1, by omega⟩
    obtain ⟨r, r1, r2⟩ := dg_count hI 5 NF NF 0 h (by omega) (by omega) (by omega) (by omega)
    refine ⟨r, ?_, ?_⟩
    · show mX10_digest_184 NF _ _ _ _ _ = _
      unfold mX10_digest_184 mX6_size
      rw [Option.bind_some, u0, if_pos (by rw [I_le (by omega) (by omega) (by omega) (by omega)]; omega)]
      exact r1
    · show mM_digest_108 NF _ _ _ = _
      unfold mM_digest_108
      rw [show (shM w h).1 1 = I p from w1, if_pos (by rw [I_le (by omega) (by omega) (by omega) (by omega)]; omega)]
      exact r2
  | succ d ih =>
    intro f f' j h hf hf' hd
    obtain ⟨f, rfl⟩ : ∃ g, f = g + 1 := ⟨f - 1, by omega⟩
    obtain ⟨f', rfl⟩ : ∃ g, f' = g + 1 := ⟨f' - 1, by omega⟩
    obtain ⟨c, c1, c2, -, -⟩ := hc j (by omega)
    obtain ⟨r, r1, r2⟩ := ih f f' (j + 1) (31 * h + Int32.toInt64 (I c)) (by omega) (by omega) (by omega)
    rw [show ((j + 1 : Nat) : Int) = (j : Int) + 1 by omega] at r1 r2
    refine ⟨r, ?_, ?_⟩
    · show mX10_digest_184 NF _ _ _ _ _ = _
      unfold mX10_digest_184 mX6_size mX6_codeAt mX6_codeAt_22
      rw [Option.bind_some, u0, if_neg (by rw [I_le (by omega) (by omega) (by omega) (by omega)]; omega), show (0 : Int32) = I 0 from rfl, if_neg (by rw [I_lt (by omega) (by omega) (by omega) (by omega)]; omega), if_neg (by rw [I_le (by omega) (by omega) (by omega) (by omega)]; omega), rdX_2 (by omega) (by omega), Option.bind_some, x_with, Option.bind_some, show ((j : Int)).toNat = j by omega, c1, show I (j : Int) + 1 = I ((j : Int) + 1) from I_add _ 1, r1]
    · show mM_digest_108 NF _ _ _ = _
      unfold mM_digest_108
      rw [show (shM w h).1 1 = I p from w1, if_neg (by rw [I_le (by omega) (by omega) (by omega) (by omega)]; omega), rd_I (by omega) (by omega) (by omega), m_say, Option.bind_some, show ((j : Int)).toNat = j by omega, show (shM w h).2.1 0 j = I c from c2, show I (j : Int) + 1 = I ((j : Int) + 1) from I_add _ 1, r2]
theorem dg_notes {u : USt} {b : BSt} {w : MSt} (hI : InvX u b w) {p m : Nat} (hp : p ≤ 20) (u0 : u.1 0 = I p) (w1 : w.1 1 = I p) (hc : ∀ j, j < p → ∃ c : Int, u.2 2 j = I c ∧ w.2.1 0 j = I c ∧ 1 ≤ c ∧ c ≤ 126) (hm : m ≤ 6) (u11 : u.1 11 = I m) (w21 : w.1 21 = I m) (hn : ∀ j, j < 24 → u.2 7 j = w.2.1 22 j) : ∀ (d f f' j : Nat) (h : Int64), d < f → 4 * d < f' → d + j = m → ∃ r : Int64, mX10_digest_h134 NF b f u h (I (j : Int)) = some (r, u) ∧ mM_digest_h79 NF f' (shM w h) (I (4 * (j : Int))) = some (r, shM w r) := by
  have hb := NF_big
  intro d
  induction d with
  | zero =>
    intro f f' j h hf hf' hd
    obtain ⟨f, rfl⟩ : ∃ g, f = g + 1 := ⟨f - 1, by omega⟩
    obtain ⟨f', rfl⟩ : ∃ g, f' = g + 1 := ⟨f' - 1, by omega⟩
    obtain ⟨r, r1, r2⟩ := dg_page hI hp u0 w1 hc p NF NF 0 h (by omega) (by omega) (by omega)
    refine ⟨r, ?_, ?_⟩
    · show mX10_digest_134 NF _ _ _ _ _ = _
      unfold mX10_digest_134 mX5_size_6
      rw [Option.bind_some, u11, if_pos (by rw [I_le (by omega) (by omega) (by omega) (by omega)]; omega)]
      exact r1
    · show mM_digest_79 NF _ _ _ = _
      unfold mM_digest_79
      rw [show (shM w h).1 21 = I m from w21, show (4 : Int32) = I 4 from rfl, I_mul, if_pos (by rw [I_le (by omega) (by omega) (by omega) (by omega)]; omega)]
      exact r2
  | succ d ih =>
    intro f f' j h hf hf' hd
    obtain ⟨f, rfl⟩ : ∃ g, f = g + 1 := ⟨f - 1, by omega⟩
    obtain ⟨f', rfl⟩ : ∃ g, f' = g + 1 + 1 + 1 + 1 := ⟨f' - 4, by omega⟩
    have sx : ∀ (g c : Nat) (h : Int64), c < 4 → mX10_digest_h148 NF b (mX10_digest_h134 NF b f) (g + 1) u h (I (j : Int)) (I (c : Int)) = mX10_digest_h148 NF b (mX10_digest_h134 NF b f) g u (31 * h + Int32.toInt64 (u.2 7 (4 * j + c))) (I (j : Int)) (I ((c + 1 : Nat) : Int)) := by
      intro g c h hc4
      show mX10_digest_148 NF _ _ _ _ _ _ _ = _
      unfold mX10_digest_148
      rw [show (4 : Int32) = I 4 from rfl, if_neg (by rw [I_le (by omega) (by omega) (by omega) (by omega)]; omega), x_part NF u11 hm (by omega) hc4, Option.bind_some, x_with, Option.bind_some, show I (c : Int) + 1 = I ((c : Int) + 1) from I_add _ 1]
      rfl
    have sm : ∀ (g c : Nat) (h : Int64), c < 4 → mM_digest_h79 NF (g + 1) (shM w h) (I (4 * (j : Int) + c)) = mM_digest_h79 NF g (shM w (31 * h + Int32.toInt64 (u.2 7 (4 * j + c)))) (I (4 * (j : Int) + (c + 1 : Nat))) := by
      intro g c h hc4
      show mM_digest_79 NF _ _ _ = _
      unfold mM_digest_79
      rw [show (shM w h).1 21 = I m from w21, show (4 : Int32) = I 4 from rfl, I_mul, if_neg (by rw [I_le (by omega) (by omega) (by omega) (by omega)]; omega), rd_I (by omega) (by omega) (by omega), m_say, Option.bind_some, show (4 * (j : Int) + (c : Int)).toNat = 4 * j + c by omega, show (shM w h).2.1 22 (4 * j + c) = u.2 7 (4 * j + c) from (hn _ (by omega)).symm, show I (4 * (j : Int) + c) + 1 = I (4 * (j : Int) + c + 1) from I_add _ 1, show 4 * (j : Int) + c + 1 = 4 * (j : Int) + (c + 1 : Nat) by omega]
    obtain ⟨r, r1, r2⟩ := ih f f' (j + 1) (31 * (31 * (31 * (31 * h + Int32.toInt64 (u.2 7 (4 * j + 0))) + Int32.toInt64 (u.2 7 (4 * j + 1))) + Int32.toInt64 (u.2 7 (4 * j + 2))) + Int32.toInt64 (u.2 7 (4 * j + 3))) (by omega) (by omega) (by omega)
    refine ⟨r, ?_, ?_⟩
    · show mX10_digest_134 NF _ _ _ _ _ = _
      unfold mX10_digest_134 mX5_size_6
      rw [Option.bind_some, u11, if_neg (by rw [I_le (by omega) (by omega) (by omega) (by omega)]; omega)]
      obtain ⟨g, hg⟩ : ∃ g, NF = g + 1 + 1 + 1 + 1 + 1 := ⟨NF - 5, by omega⟩
      have key : ∀ M, mX10_digest_h148 NF b (mX10_digest_h134 NF b f) (M + 1 + 1 + 1 + 1 + 1) u h (I (j : Int)) (I ((0 : Nat) : Int)) = some (r, u) := by
        intro M
        rw [sx _ 0 h (by omega), sx _ 1 _ (by omega), sx _ 2 _ (by omega), sx _ 3 _ (by omega)]
        show mX10_digest_148 NF _ _ _ _ _ _ _ = _
        unfold mX10_digest_148
        rw [show (4 : Int32) = I 4 from rfl, if_pos (by rw [I_le (by omega) (by omega) (by omega) (by omega)]; omega), show I (j : Int) + 1 = I ((j : Int) + 1) from I_add _ 1, show (j : Int) + 1 = ((j + 1 : Nat) : Int) by omega, r1]
      have := key g
      rw [← hg] at this
      exact this
    · have e0 : I (4 * (j : Int)) = I (4 * (j : Int) + ((0 : Nat) : Int)) := by
        rw [Int.natCast_zero, Int.add_zero]
      rw [e0, sm _ 0 h (by omega), sm _ 1 _ (by omega), sm _ 2 _ (by omega), sm _ 3 _ (by omega)]
      rw [show 4 * (j : Int) + ((3 + 1 : Nat) : Int) = 4 * ((j + 1 : Nat) : Int) by omega]
      exact r2
theorem dg_isl {u : USt} {b : BSt} {rw : Int → Int} {n fr se : Int} {p m : Nat} (hX : Xst u b rw n fr) (hs : Shf rw n) (hp : p ≤ 20) (u0 : u.1 0 = I p) (hm : m ≤ 6) (u11 : u.1 11 = I m) (h24 : Crow (u.2 24) 0 (arr 1 (Pw rw) (Lw (-1) (-1) se fr rw 1 1) n.toNat 0 0)) : ∀ (d f f' : Nat) (i : Int) (h : Int64) (w : MSt), d < f → d < f' → (d : Int) = 8 - i → 0 ≤ i → InvX u b w → Mst w rw n fr (-1) (-1) se → w.1 1 = I p → (∀ j, j < p → ∃ c : Int, u.2 2 j = I c ∧ w.2.1 0 j = I c ∧ 1 ≤ c ∧ c ≤ 126) → w.1 21 = I m → (∀ j, j < 24 → u.2 7 j = w.2.1 22 j) → ∃ (r : Int64) (w' : MSt), mX10_digest_h77 NF b f u h (I i) = some (r, u) ∧ mM_digest_h38 NF f' (shM w h) (I i) = some (r, w') ∧ InvX u b w' := by
  have hb := NF_big
  have hA := arr_ok (P := Pw rw) (L := Lw (-1) (-1) se fr rw 1 1) (n := n.toNat) (f := 0) (m := 0) (p := 1) (by omega) (by omega) (by omega)
  intro d
  induction d with
  | zero =>
    intro f f' i h w hf hf' hd hi hI hM w1 hc w21 hn
    obtain ⟨f, rfl⟩ : ∃ g, f = g + 1 := ⟨f - 1, by omega⟩
    obtain ⟨f', rfl⟩ : ∃ g, f' = g + 1 := ⟨f' - 1, by omega⟩
    obtain ⟨r, r1, r2⟩ := dg_notes hI hp u0 w1 hc hm u11 w21 hn m NF NF 0 h (by omega) (by omega) (by omega)
    refine ⟨r, shM w r, ?_, ?_, hI.sh r⟩
    · show mX10_digest_77 NF _ _ _ _ _ = _
      unfold mX10_digest_77
      rw [show (8 : Int32) = I 8 from rfl, if_pos (by rw [I_le (by omega) (by omega) (by omega) (by omega)]; omega)]
      exact r1
    · show mM_digest_38 NF _ _ _ = _
      unfold mM_digest_38
      rw [show (8 : Int32) = I 8 from rfl, if_pos (by rw [I_le (by omega) (by omega) (by omega) (by omega)]; omega)]
      exact r2
  | succ d ih =>
    intro f f' i h w hf hf' hd hi hI hM w1 hc w21 hn
    obtain ⟨f, rfl⟩ : ∃ g, f = g + 1 := ⟨f - 1, by omega⟩
    obtain ⟨f', rfl⟩ : ∃ g, f' = g + 1 := ⟨f' - 1, by omega⟩
    obtain ⟨g2, f3⟩ := m_soonestOf (hM.sh h) (p := 1) (w := 1) (m := 0) (x := 0) (y := i) (by omega) (by omega) (by omega) (by omega) (by omega) (by omega) (by omega) (by omega) hi (by omega)
    have n1 := hX.2.1
    have hz := hA i hi (by omega)
    have g1 : u.2 24 i.toNat = I (cv 0 (arr 1 (Pw rw) (Lw (-1) (-1) se fr rw 1 1) n.toNat 0 0 i)) := h24 i hi (by omega)
    unfold soo at f3
    generalize arr 1 (Pw rw) (Lw (-1) (-1) se fr rw 1 1) n.toNat 0 0 i = z at *
    have hMw : Mst (sfM w 10 g2) rw n fr (-1) (-1) se := hM
    have hIw : InvX u b (sfM w 10 g2) := hI.keep (KX.refl u) (KM_sf _ _ (by omega))
    obtain ⟨r, w', r1, r2, r3⟩ := ih f f' (i + 1) (hst (hst h (if z = 100000 then -1 else z)) (0 + apt fr rw n.toNat i 60 0)) (sfM w 10 g2) (by omega) (by omega) (by omega) (by omega) hIw hMw w1 (fun j hj => by
      rw [sfM_ne (by omega)]
      exact hc j hj) w21 (fun j hj => by
      rw [sfM_ne (by omega)]
      exact hn j hj)
    refine ⟨r, w', ?_, ?_, r3⟩
    · show mX10_digest_77 NF _ _ _ _ _ = _
      unfold mX10_digest_77 mX10_digest_108 mX10_minutesApart
      have ea : mX10_minutesApart_h6 NF u b NF (I i) 0 60 0 0 = some (I (0 + apt fr rw n.toNat i 60 0)) := x_apart hX hs hi (by omega) (show (0 : Int) ≤ 0 by omega) (by omega) (show (0 : Int) ≤ 60 by omega) (by omega) 60 NF 0 0 (by omega) (by omega) (by omega)
      rw [show (8 : Int32) = I 8 from rfl, if_neg (by rw [I_le (by omega) (by omega) (by omega) (by omega)]; omega), rdX_24 hi (by omega), rdX_24 hi (by omega), g1, ← r1]
      by_cases q : z = 100000
      · have ec : cv 0 z = 2147483647 := if_pos q
        rw [ec, if_neg (show ¬ ¬ I 2147483647 = (2147483647 : Int32) from not_not_intro rfl), if_pos q, x_with, Option.bind_some, ea, Option.bind_some, x_with, Option.bind_some, show I i + 1 = I (i + 1) from I_add i 1]
        rfl
      · have ec : cv 0 z = z := by
          unfold cv
          rw [if_neg q]
          omega
        rw [ec, if_pos (by rw [show (2147483647 : Int32) = I 2147483647 from rfl, I_eq (by omega) (by omega) (by omega) (by omega)]; omega), if_neg q, x_with, Option.bind_some, ea, Option.bind_some, x_with, Option.bind_some, show I i + 1 = I (i + 1) from I_add i 1]
        rfl
    · show mM_digest_38 NF _ _ _ = _
      unfold mM_digest_38 mM_cutOf
      have es : sfM (shM w h) 10 g2 = shM (sfM w 10 g2) h := rfl
      have em : ∀ x, mM_cutOf_h6 NF (shM (sfM w 10 g2) x) NF (I i) 0 60 0 0 = some (I (0 + apt fr rw n.toNat i 60 0)) := fun x => m_cutOf (hMw.sh x) hi (by omega) (show (0 : Int) ≤ 0 by omega) (by omega) (show (0 : Int) ≤ 60 by omega) (by omega) 60 NF 0 0 (by omega) (by omega) (by omega)
      have f3' : mM_soonestOf NF (shM w h) 0 (I i) 0 1 1 = some (I (if z = 100000 then -1 else z), shM (sfM w 10 g2) h) := f3
      rw [show (8 : Int32) = I 8 from rfl, if_neg (by rw [I_le (by omega) (by omega) (by omega) (by omega)]; omega), f3', bp_some, m_say, Option.bind_some, em, Option.bind_some, m_say, Option.bind_some, show I i + 1 = I (i + 1) from I_add i 1]
      exact r2
theorem dg_br {b : BSt} {rw : Int → Int} {n fr se : Int} {p m : Nat} (hs : Shf rw n) (hp : p ≤ 20) (hm : m ≤ 6) {u : USt} {w : MSt} (hX : Xst u b rw n fr) (hI : InvX u b w) (hM : Mst w rw n fr (-1) (-1) se) (u0 : u.1 0 = I p) (u11 : u.1 11 = I m) (w1 : w.1 1 = I p) (hc : ∀ j, j < p → ∃ c : Int, u.2 2 j = I c ∧ w.2.1 0 j = I c ∧ 1 ≤ c ∧ c ≤ 126) (w21 : w.1 21 = I m) (hn : ∀ j, j < 24 → u.2 7 j = w.2.1 22 j) : ∀ (d f f' : Nat) (j : Int) (h : Int64), d < f → d < f' → (d : Int) = n - j → 0 ≤ j → ∃ (r : Int64) (u' : USt) (w' : MSt), mX10_digest_h6 NF b f u h (I j) = some (r, u') ∧ mM_digest_h9 NF f' (shM w h) (I j) = some (r, w') ∧ InvX u' b w' := by
  have hb := NF_big
  have n1 := hX.2.1
  have n2 := hX.2.2.1
  intro d
  induction d with
  | zero =>
    intro f f' j h hf hf' hd hj
    obtain ⟨f, rfl⟩ : ∃ g, f = g + 1 := ⟨f - 1, by omega⟩
    obtain ⟨f', rfl⟩ : ∃ g, f' = g + 1 := ⟨f' - 1, by omega⟩
    obtain ⟨a, a1, a2⟩ := again_of hX (hM.sh h)
    obtain ⟨u5, e1, e2, e3⟩ := x_openTable (s := 0) (sp := 400) (p := 1) (w := 1) se hX hs (by omega) (by omega) (by omega) (by omega) (by omega) (by omega) (by omega) (by omega)
    obtain ⟨g1, f1, f2⟩ := x_reach (wd := 255) (a := 24) (.inl rfl) e3 (Net_w hM) n1 n2 (by omega) (by omega) (by omega) (by omega) (by omega) (b0 := 0) (z := 0) (by omega) (by omega) (by omega) (by omega) P8_255
    have hk : KX u (sfX u5 24 g1) := e2.trans (KX_sf _ _ (by omega))
    have hcr : Crow ((sfX u5 24 g1).2 24) 0 (arr 1 (Pw rw) (Lw (-1) (-1) se fr rw 1 1) n.toNat 0 0) := by
      rw [sfX_g]
      exact fun i i1 i2 => f1 i i1 i2 (tb_255' i1 i2)
    obtain ⟨r, w', r1, r2, r3⟩ := dg_isl (b := b) (hX.keep hk) hs hp ((hk.1 0 (by omega)).trans u0) hm ((hk.1 11 (by omega)).trans u11) hcr 8 NF NF 0 (31 * h + a) w (by omega) (by omega) (by omega) (by omega) (hI.keep hk (KM.refl w)) hM w1 (fun j hj => by
      rw [hk.2 2 (by omega)]
      exact hc j hj) w21 (fun j hj => by
      rw [hk.2 7 (by omega)]
      exact hn j hj)
    refine ⟨r, sfX u5 24 g1, w', ?_, ?_, r3⟩
    · show mX10_digest_6 NF _ _ _ _ _ = _
      unfold mX10_digest_6
      rw [x_size NF hX, Option.bind_some, if_pos (by rw [I_le (by omega) (by omega) (by omega) (by omega)]; omega), a1, Option.bind_some, x_with, Option.bind_some, show (0 : Int32) = I 0 from rfl, show (400 : Int32) = I 400 from rfl, show (1 : Int32) = I 1 from rfl, e1, Option.bind_some, f2, Option.bind_some]
      exact r1
    · show mM_digest_9 NF _ _ _ = _
      unfold mM_digest_9
      rw [show (shM w h).1 4 = I n from hM.2.2.2.1, if_pos (by rw [I_le (by omega) (by omega) (by omega) (by omega)]; omega), a2, Option.bind_some, m_say, Option.bind_some]
      exact r2
  | succ d ih =>
    intro f f' j h hf hf' hd hj
    obtain ⟨f, rfl⟩ : ∃ g, f = g + 1 := ⟨f - 1, by omega⟩
    obtain ⟨f', rfl⟩ : ∃ g, f' = g + 1 := ⟨f' - 1, by omega⟩
    have hB := hX.row hj (by omega)
    obtain ⟨r, u', w', r1, r2, r3⟩ := ih f f' (j + 1) (brh fr (rowk rw j) h) (by omega) (by omega) (by omega) (by omega)
    refine ⟨r, u', w', ?_, ?_, r3⟩
    · show mX10_digest_6 NF _ _ _ _ _ = _
      unfold mX10_digest_6 mX10_withBridge
      rw [x_size NF hX, Option.bind_some, if_neg (by rw [I_le (by omega) (by omega) (by omega) (by omega)]; omega), x_get NF hX hj (by omega), Option.bind_some, hB.skip, show (0 : Int32) = I 0 from rfl, x_wb6 hX hs hj (by omega) 8 NF 0 h (by omega) (by omega) (by omega), Option.bind_some, show I j + 1 = I (j + 1) from I_add j 1]
      exact r1
    · show mM_digest_9 NF _ _ _ = _
      unfold mM_digest_9 mM_sayBridge
      rw [show (shM w h).1 4 = I n from hM.2.2.2.1, if_neg (by rw [I_le (by omega) (by omega) (by omega) (by omega)]; omega), show (0 : Int32) = I 0 from rfl, m_sb0 hM hj (by omega) 8 NF 0 h (by omega) (by omega) (by omega), Option.bind_some, show I j + 1 = I (j + 1) from I_add j 1]
      exact r2
theorem pu_digest : Pu_digest InvX := by
  have hbig := NF_big
  intro u b v h
  have hh := h
  obtain ⟨n, rw, fr, se, hX, hM, hs, ⟨p, p1, p2, p3, p4⟩, ⟨m, m1, m2, m3, m4, m5⟩, hG⟩ := h
  have n1 := hX.2.1
  have n2 := hX.2.2.1
  obtain ⟨r, u', w', r1, r2, r3⟩ := dg_br hs p1 m1 hX hh hM p2 m2 p3 p4 m3 m4 n.toNat NF NF 0 557 (by omega) (by omega) (by omega) (by omega)
  exact ⟨r, u', w', r1, r2, r3⟩
