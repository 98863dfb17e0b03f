/-- last minutes: what one row does in a minute, backwards -/
def bk1 (p one two t : Int) (B : Int → Int) : Int → Int := if two = -1 then B else if t + p ≤ B one ∧ B two = -1 then fup B two t else if t + p ≤ B two ∧ B one = -1 then fup B one t else B
def bkR (p : Int) (P : Int → Int) (L : Int → Int → Int) (t : Int) : Nat → Int → (Int → Int) → Int → Int
  | 0, _, B => B
  | d + 1, j, B => bkR p P L t d (j + 1) (bk1 p (P j) (L j t) t B)
def bkT (p : Int) (P : Int → Int) (L : Int → Int → Int) (n : Nat) : Nat → Int → (Int → Int) → Int → Int
  | 0, _, B => B
  | d + 1, t, B => bkT p P L n d (t - 1) (bkR p P L t n 0 B)
def bk0 (y m : Int) : Int → Int := fun i => if i = y then m else -1
def Bok (B : Int → Int) (t y : Int) : Prop := ∀ i, 0 ≤ i → i < 8 → B i = -1 ∨ (t ≤ B i ∧ B i ≤ y)
theorem Bok.mono {B : Int → Int} {t t' y : Int} (h : Bok B t y) (ht : t' ≤ t) : Bok B t' y := fun i i1 i2 => by
  have := h i i1 i2
  omega
theorem bk1_ok {p one two t y : Int} {B : Int → Int} (h : Bok B t y) (h2 : t ≤ y) : Bok (bk1 p one two t B) t y := by
  have hu : ∀ k, Bok (fup B k t) t y := fun k i i1 i2 => by
    unfold fup
    split
    · omega
    · exact h i i1 i2
  unfold bk1
  (repeat' split) <;> first | exact h | exact hu _
theorem bkR_ok {p t y : Int} {P : Int → Int} {L : Int → Int → Int} (h2 : t ≤ y) : ∀ (d : Nat) (j : Int) (B : Int → Int), Bok B t y → Bok (bkR p P L t d j B) t y
  | 0, _, _, h => h
  | d + 1, j, _, h => bkR_ok h2 d (j + 1) _ (bk1_ok h h2)
theorem bk1_st {p one two t : Int} {B : Int → Int} {i : Int} (h : B i ≠ -1) : bk1 p one two t B i = B i := by
  unfold bk1
  split
  · rfl
  · split
    · rename_i q
      exact fup_ne (fun e => h (by rw [e]; exact q.2))
    · split
      · rename_i q
        exact fup_ne (fun e => h (by rw [e]; exact q.2))
      · rfl
theorem bkR_st {p t : Int} {P : Int → Int} {L : Int → Int → Int} {i : Int} : ∀ (d : Nat) (j : Int) (B : Int → Int), B i ≠ -1 → bkR p P L t d j B i = B i
  | 0, _, _, _ => rfl
  | d + 1, j, B, h => by
      have e : bkR p P L t (d + 1) j B = bkR p P L t d (j + 1) (bk1 p (P j) (L j t) t B) := rfl
      have e1 := bk1_st (p := p) (one := P j) (two := L j t) (t := t) h
      rw [e, bkR_st d (j + 1) _ (by rw [e1]; exact h), e1]
theorem bkT_st {p : Int} {P : Int → Int} {L : Int → Int → Int} {n : Nat} {i : Int} : ∀ (d : Nat) (t : Int) (B : Int → Int), B i ≠ -1 → bkT p P L n d t B i = B i
  | 0, _, _, _ => rfl
  | d + 1, t, B, h => by
      have e : bkT p P L n (d + 1) t B = bkT p P L n d (t - 1) (bkR p P L t n 0 B) := rfl
      have e1 := bkR_st (p := p) (P := P) (L := L) (t := t) n 0 B h
      rw [e, bkT_st d (t - 1) _ (by rw [e1]; exact h), e1]
theorem bkR_idle {n p t s y : Int} {P : Int → Int} {L : Int → Int → Int} (p0 : 0 ≤ p) (hnet : Net n P L) {B : Int → Int} (hB : Bok B s y) (h : y < t + p) (t1 : 0 ≤ t) : ∀ (d : Nat) (j : Int), 0 ≤ j → j + d ≤ n → bkR p P L t d j B = B
  | 0, _, _, _ => rfl
  | d + 1, j, j1, j2 => by
      have e : bkR p P L t (d + 1) j B = bkR p P L t d (j + 1) (bk1 p (P j) (L j t) t B) := rfl
      have hn := hnet j j1 (by omega)
      have hl := hn.2 t t1
      have e1 : bk1 p (P j) (L j t) t B = B := by
        unfold bk1
        split
        · rfl
        · have b1 := hB (P j) (by omega) (by omega)
          have b2 := hB (L j t) (by omega) (by omega)
          (repeat' split) <;> first | rfl | (exfalso; omega)
      rw [e, e1]
      exact bkR_idle p0 hnet hB h t1 d (j + 1) (by omega) (by omega)
theorem bkT_idle {n p s y : Int} {P : Int → Int} {L : Int → Int → Int} (p0 : 0 ≤ p) (hnet : Net n P L) (n1 : 0 ≤ n) {B : Int → Int} (hB : Bok B s y) : ∀ (e d : Nat) (t : Int), 0 ≤ t - e + 1 → y < t - e + 1 + p → bkT p P L n.toNat (e + d) t B = bkT p P L n.toNat d (t - e) B
  | 0, d, t, _, _ => by
      rw [Nat.zero_add, show t - ((0 : Nat) : Int) = t by omega]
  | e + 1, d, t, h1, h2 => by
      rw [show e + 1 + d = (e + d) + 1 by omega]
      have e1 : bkT p P L n.toNat (e + d + 1) t B = bkT p P L n.toNat (e + d) (t - 1) (bkR p P L t n.toNat 0 B) := rfl
      rw [e1, bkR_idle p0 hnet hB (by omega) (by omega) n.toNat 0 (by omega) (by omega), bkT_idle p0 hnet n1 hB e d (t - 1) (by omega) (by omega)]
      congr 1
      omega
theorem m_la213 (N : Nat) {v : MSt} (k90 : MSt → Int32 → Int32 → Int32 → Int32 → Int32 → Option (Int32 × MSt)) (k99 : MSt → Int32 → Int32 → Int32 → Int32 → Int32 → Int32 → Option (Int32 × MSt)) {g : Nat → Int32} {A : Int → Int} (hg : Arow g A) {one two t on ba : Int} {x1 x3 x5 x6 x8 : Int32} (o1 : 0 ≤ one) (o2 : one < 8) (w1 : 0 ≤ two) (w2 : two < 8) (hne : two ≠ one) (h1 : on = 0 ∨ on = 1) (h2 : ba = 0 ∨ ba = 1) : mM_last_213 N k90 k99 (sfM v 10 g) x1 x3 x5 x6 (I t) x8 (I one) (I two) (I on) (I ba) = k99 (sfM v 10 (upd (upd g one.toNat (I (if on = 0 then A one else t))) two.toNat (I (if ba = 0 then A two else t)))) x1 x3 x5 x6 (I t) (x8 + 1) := by
  have g1 := hg one o1 o2
  have g2 := hg two w1 w2
  have e : ∀ y, upd g one.toNat y two.toNat = I (A two) := fun y => (ud_ne (by omega)).trans g2
  have z0 : (I 0 = (0 : Int32)) = True := by simp; rfl
  have z1 : (I 1 = (0 : Int32)) = False := eq_false (by decide)
  have q0 : ((0 : Int) = 0) = True := by simp
  have q1 : ((1 : Int) = 0) = False := by simp
  unfold mM_last_213 mM_last_238 mM_last_262 mM_last_263
  rcases h1 with rfl | rfl <;> rcases h2 with rfl | rfl <;> simp (disch := omega) only [nm, wr_I, rd_I, sfM_g, vu_eq, g1, e, saM_sfM, z0, z1, q0, q1, if_true, if_false]
theorem m_la179 (N : Nat) {v : MSt} (k90 : MSt → Int32 → Int32 → Int32 → Int32 → Int32 → Option (Int32 × MSt)) (k99 : MSt → Int32 → Int32 → Int32 → Int32 → Int32 → Int32 → Option (Int32 × MSt)) {g : Nat → Int32} {A : Int → Int} (hg : Arow g A) {one two p t y : Int} {on x1 x3 x6 x8 : Int32} (hA : Bok A t y) (y2 : y ≤ 5000) (o1 : 0 ≤ one) (o2 : one < 8) (w1 : 0 ≤ two) (w2 : two < 8) (p1 : 1 ≤ p) (p2 : p ≤ 9) (t1 : 0 ≤ t) (t2 : t ≤ 5000) : mM_last_179 N k90 k99 (sfM v 10 g) x1 x3 (I p) x6 (I t) x8 (I one) (I two) on = mM_last_213 N k90 k99 (sfM v 10 g) x1 x3 (I p) x6 (I t) x8 (I one) (I two) on (I (bo (t + p ≤ A one ∧ A two < t))) := by
  have g1 := hg one o1 o2
  have g2 := hg two w1 w2
  have hA1 := hA one o1 o2
  have hA2 := hA two w1 w2
  unfold mM_last_179 mM_last_212
  simp (disch := omega) only [rd_I, sfM_g, g1, g2, I_lt, I_le, I_lit, I_add]
  unfold bo
  (repeat' split) <;> first | rfl | (exfalso; omega)
theorem m_la_step (N : Nat) {v : MSt} {rw : Int → Int} {n fr wo sk se p w t j y : Int} {x1 x3 : Int32} (hM : Mst v rw n fr wo sk se) (k90 : MSt → Int32 → Int32 → Int32 → Int32 → Int32 → Option (Int32 × MSt)) (k99 : MSt → Int32 → Int32 → Int32 → Int32 → Int32 → Int32 → Option (Int32 × MSt)) {g : Nat → Int32} {B : Int → Int} (hg : Arow g B) (hB : Bok B t y) (j1 : 0 ≤ j) (j2 : j < n) (t1 : 0 ≤ t) (t2 : t ≤ 5000) (y2 : y ≤ 5000) (p1 : 1 ≤ p) (p2 : p ≤ 9) (w1 : 1 ≤ w) (w2 : w ≤ 9) : ∃ g', Arow g' (bk1 p (Pw rw j) (Lw wo sk se fr rw p w j t) t B) ∧ mM_last_99 N k90 k99 (sfM v 10 g) x1 x3 (I p) (I w) (I t) (I j) = k99 (sfM v 10 g') x1 x3 (I p) (I w) (I t) (I (j + 1)) := by
  have hM' : Mst (sfM v 10 g) rw n fr wo sk se := hM
  have hM2 := hM'
  have hnet := Net_w (p := p) (w := w) hM j j1 j2
  have hland := hnet.2 t t1
  have hone := hnet.1
  obtain ⟨hr, hf, hf2, hn, hn1, hn2, hrest⟩ := hM'
  have e1 : rw (10 * j + 1) = Pw rw j := rfl
  unfold mM_last_99
  haveI : Decidable (mg wo sk se fr (rowk rw j) j t p w) := Classical.propDecidable _
  rw [mM_mayGo_I N hM2 j1 j2 t1 (by omega) p1 p2 w1 w2, mM_joinsNow_I N hM2 j1 j2 t1 (by omega)]
  rw [hn]
  by_cases q : mg wo sk se fr (rowk rw j) j t p w
  · have eL : Lw wo sk se fr rw p w j t = jnW wo sk se fr (rowk rw j) j t := if_pos q
    rw [← eL, if_pos q]
    have hne : Lw wo sk se fr rw p w j t ≠ -1 := by
      intro h
      have q2 := q.2
      unfold lsW at q2
      rw [← eL, if_pos h] at q2
      omega
    generalize Lw wo sk se fr rw p w j t = two at *
    generalize hP : Pw rw j = one at *
    have hA1 := hB one hone.1 (by omega)
    have hA2 := hB two (by omega) (by omega)
    have g1 := hg one hone.1 (by omega)
    have g2 := hg two (by omega) (by omega)
    refine ⟨upd (upd g one.toNat (I (if bo (t + p ≤ B two ∧ B one < t) = 0 then B one else t))) two.toNat (I (if bo (t + p ≤ B one ∧ B two < t) = 0 then B two else t)), ?_, ?_⟩
    · have H := (hg.up (k := one) (by omega) (if bo (t + p ≤ B two ∧ B one < t) = 0 then B one else t)).up (k := two) (by omega) (if bo (t + p ≤ B one ∧ B two < t) = 0 then B two else t)
      have E : fup (fup B one (if bo (t + p ≤ B two ∧ B one < t) = 0 then B one else t)) two (if bo (t + p ≤ B one ∧ B two < t) = 0 then B two else t) = bk1 p one two t B := by
        unfold bk1
        by_cases c1 : t + p ≤ B one ∧ B two = -1
        · have b1 : bo (t + p ≤ B one ∧ B two < t) = 1 := bo_t (by omega)
          have b2 : bo (t + p ≤ B two ∧ B one < t) = 0 := bo_f (by omega)
          rw [b1, b2, if_neg (show ¬ (1 : Int) = 0 by omega), if_pos (show (0 : Int) = 0 from rfl), if_neg hne, if_pos c1, fup_self]
        · by_cases c2 : t + p ≤ B two ∧ B one = -1
          · have b1 : bo (t + p ≤ B one ∧ B two < t) = 0 := bo_f (by omega)
            have b2 : bo (t + p ≤ B two ∧ B one < t) = 1 := bo_t (by omega)
            rw [b1, b2, if_neg (show ¬ (1 : Int) = 0 by omega), if_pos (show (0 : Int) = 0 from rfl), if_neg hne, if_neg c1, if_pos c2]
            rw [show B two = fup B one t two from (fup_ne (by omega)).symm, fup_self]
          · have b1 : bo (t + p ≤ B one ∧ B two < t) = 0 := bo_f (by omega)
            have b2 : bo (t + p ≤ B two ∧ B one < t) = 0 := bo_f (by omega)
            rw [b1, b2, if_pos (show (0 : Int) = 0 from rfl), if_pos (show (0 : Int) = 0 from rfl), fup_self, fup_self, if_neg hne, if_neg c1, if_neg c2]
      rw [E] at H
      exact H
    · rw [Option.bind_some, if_neg (by rw [I_le (by omega) (by omega) (by omega) (by omega)]; omega), if_neg (show ¬ (1 : Int32) = 0 by decide)]
      rw [show ((10 : Int32) * I j + 1) = I (10 * j + 1) from by rw [show (10 : Int32) = I 10 from rfl, show (1 : Int32) = I 1 from rfl, I_mul, I_add], rd_I (by omega) (by omega) (by omega), hr (10 * j + 1) (by omega) (by omega), e1, Option.bind_some]
      unfold mM_last_178
      simp (disch := omega) only [rd_I, sfM_g, g1, g2, I_add, I_lt, I_le]
      rw [show (0 : Int32) = I 0 from rfl, show (1 : Int32) = I 1 from rfl]
      simp (disch := omega) only [m_la179 N k90 k99 hg hB y2]
      rw [m_la213 N k90 k99 hg (by omega) (by omega) (by omega) (by omega) (by omega) (.inl rfl) (bo_01 _), m_la213 N k90 k99 hg (by omega) (by omega) (by omega) (by omega) (by omega) (.inr rfl) (bo_01 _), show I j + 1 = I (j + 1) from I_add j 1]
      by_cases c1 : t + p ≤ B two ∧ B one < t
      · rw [bo_t c1, if_neg (by omega), if_neg (by omega)]
      · rw [bo_f c1]
        (repeat' split) <;> first | rfl | (exfalso; omega)
  · have eL : Lw wo sk se fr rw p w j t = -1 := if_neg q
    rw [if_neg q, Option.bind_some, if_pos rfl, if_neg (by rw [I_le (by omega) (by omega) (by omega) (by omega)]; omega), eL]
    unfold mM_last_263
    rw [show I j + 1 = I (j + 1) from I_add j 1]
    exact ⟨g, by unfold bk1; rw [if_pos rfl]; exact hg, rfl⟩
theorem m_la99 (N : Nat) {v : MSt} {rw : Int → Int} {n fr wo sk se p w t y : Int} {x1 x3 : Int32} (hM : Mst v rw n fr wo sk se) (k90 : MSt → Int32 → Int32 → Int32 → Int32 → Int32 → Option (Int32 × MSt)) (t1 : 0 ≤ t) (t2 : t ≤ y) (y2 : y ≤ 5000) (p1 : 1 ≤ p) (p2 : p ≤ 9) (w1 : 1 ≤ w) (w2 : w ≤ 9) : ∀ (d f : Nat) (j : Int) (g : Nat → Int32) (B : Int → Int), d < f → (d : Int) = n - j → 0 ≤ j → Arow g B → Bok B t y → ∃ g', Arow g' (bkR p (Pw rw) (Lw wo sk se fr rw p w) t d j B) ∧ mM_last_h99 N k90 f (sfM v 10 g) x1 x3 (I p) (I w) (I t) (I j) = k90 (sfM v 10 g') x1 x3 (I p) (I w) (I (t - 1)) := by
  have hn : v.1 4 = I n := hM.2.2.2.1
  have hn1 := hM.2.2.2.2.1
  have hn2 := hM.2.2.2.2.2.1
  intro d
  induction d with
  | zero =>
    intro f j g B hf hd hj hg hB
    obtain ⟨f, rfl⟩ : ∃ g, f = g + 1 := ⟨f - 1, by omega⟩
    refine ⟨g, hg, ?_⟩
    show mM_last_99 N _ _ _ _ _ _ _ _ _ = _
    unfold mM_last_99
    have e : (sfM v 10 g).1 4 = I n := hn
    rw [e]
    simp (disch := omega) only [I_le, I_lit, I_add, I_neg]
    rw [if_pos (by omega), show t + -1 = t - 1 by omega]
  | succ d ih =>
    intro f j g B hf hd hj hg hB
    obtain ⟨f, rfl⟩ : ∃ g, f = g + 1 := ⟨f - 1, by omega⟩
    obtain ⟨g', h1, h2⟩ := m_la_step N (x1 := x1) (x3 := x3) hM k90 (mM_last_h99 N k90 f) hg hB hj (by omega) t1 (by omega) y2 p1 p2 w1 w2
    obtain ⟨g'', h3, h4⟩ := ih f (j + 1) g' _ (by omega) (by omega) (by omega) h1 (bk1_ok hB t2)
    refine ⟨g'', h3, ?_⟩
    show mM_last_99 N _ _ _ _ _ _ _ _ _ = _
    rw [h2, h4]
theorem m_la90 {v : MSt} {rw : Int → Int} {n fr wo sk se p w y m x : Int} (hM : Mst v rw n fr wo sk se) (y2 : y ≤ 5000) (p1 : 1 ≤ p) (p2 : p ≤ 9) (w1 : 1 ≤ w) (w2 : w ≤ 9) (m1 : 0 ≤ m) (x1 : 0 ≤ x) (x2 : x < 8) : ∀ (d f : Nat) (t : Int) (g : Nat → Int32) (B : Int → Int), d < f → (d : Int) = t - m + 1 → t ≤ y → Arow g B → Bok B t y → ∃ g', mM_last_h90 NF f (sfM v 10 g) (I x) (I m) (I p) (I w) (I t) = some (I (bkT p (Pw rw) (Lw wo sk se fr rw p w) n.toNat d t B x), sfM v 10 g') := by
  have hb := NF_big
  have hn1 := hM.2.2.2.2.1
  have hn2 := hM.2.2.2.2.2.1
  intro d
  induction d with
  | zero =>
    intro f t g B hf hd hj hg hB
    obtain ⟨f, rfl⟩ : ∃ g, f = g + 1 := ⟨f - 1, by omega⟩
    refine ⟨g, ?_⟩
    show mM_last_90 NF _ _ _ _ _ _ _ = _
    unfold mM_last_90
    have e10 : (sfM v 10 g).2.1 10 = g := sfM_g _ _ _
    rw [if_pos (by rw [I_lt (by omega) (by omega) (by omega) (by omega)]; omega), rd_I x1 (by omega) (by omega), e10, hg x x1 x2]
    rfl
  | succ d ih =>
    intro f t g B hf hd hj hg hB
    obtain ⟨f, rfl⟩ : ∃ g, f = g + 1 := ⟨f - 1, by omega⟩
    obtain ⟨g', h1, h2⟩ := m_la99 NF (x1 := I x) (x3 := I m) hM (mM_last_h90 NF f) (t := t) (by omega) hj y2 p1 p2 w1 w2 n.toNat NF 0 g B (by omega) (by omega) (by omega) hg hB
    obtain ⟨g'', h3⟩ := ih f (t - 1) g' _ (by omega) (by omega) (by omega) h1 ((bkR_ok hj _ _ _ hB).mono (by omega))
    refine ⟨g'', ?_⟩
    show mM_last_90 NF _ _ _ _ _ _ _ = _
    unfold mM_last_90
    rw [if_neg (by rw [I_lt (by omega) (by omega) (by omega) (by omega)]; omega), show (0 : Int32) = I 0 from rfl, h2, h3]
    rfl
theorem m_la54 {v : MSt} {rw : Int → Int} {n fr wo sk se p w y m x z : Int} (hM : Mst v rw n fr wo sk se) (y2 : y ≤ 999) (hmy : m ≤ y) (p1 : 1 ≤ p) (p2 : p ≤ 9) (w1 : 1 ≤ w) (w2 : w ≤ 9) (m1 : 0 ≤ m) (x1 : 0 ≤ x) (x2 : x < 8) (z1 : 0 ≤ z) (z2 : z < 8) : ∀ (d f : Nat) (j : Int) (g : Nat → Int32), d < f → (d : Int) = 8 - j → 0 ≤ j → (∀ i : Int, 0 ≤ i → i < j → g i.toNat = I (bk0 z y i)) → ∃ g', mM_last_h54 NF f (sfM v 10 g) (I x) (I z) (I m) (I y) (I p) (I w) (I j) = some (I (bkT p (Pw rw) (Lw wo sk se fr rw p w) n.toNat (y - m + 1).toNat y (bk0 z y) x), sfM v 10 g') := by
  have hb := NF_big
  intro d
  induction d with
  | zero =>
    intro f j g hf hd hj hg
    obtain ⟨f, rfl⟩ : ∃ g, f = g + 1 := ⟨f - 1, by omega⟩
    obtain ⟨g', h1⟩ := m_la90 hM (y := y) (by omega) p1 p2 w1 w2 m1 x1 x2 (y - m + 1).toNat NF y g (bk0 z y) (by omega) (by omega) (by omega) (fun i i1 i2 => hg i i1 (by omega)) (fun i i1 i2 => by unfold bk0; split <;> omega)
    refine ⟨g', ?_⟩
    show mM_last_54 NF _ _ _ _ _ _ _ _ _ = _
    unfold mM_last_54
    rw [show (8 : Int32) = I 8 from rfl, if_pos (by rw [I_le (by omega) (by omega) (by omega) (by omega)]; omega), h1]
  | succ d ih =>
    intro f j g hf hd hj hg
    obtain ⟨f, rfl⟩ : ∃ g, f = g + 1 := ⟨f - 1, by omega⟩
    have hnx : ∀ i : Int, 0 ≤ i → i < j + 1 → upd g j.toNat (I (bk0 z y j)) i.toNat = I (bk0 z y i) := by
      intro i i1 i2
      by_cases q : i = j
      · subst q
        rw [ud_eq]
      · rw [ud_ne (by omega)]
        exact hg i i1 (by omega)
    obtain ⟨g', h2⟩ := ih f (j + 1) (upd g j.toNat (I (bk0 z y j))) (by omega) (by omega) (by omega) hnx
    refine ⟨g', ?_⟩
    show mM_last_54 NF _ _ _ _ _ _ _ _ _ = _
    unfold mM_last_54 mM_last_79
    simp only [nm]
    simp (disch := omega) only [I_le, I_lit, I_eq, wr_I, saM_sfM, I_add, I_neg]
    rw [if_neg (by omega), ← h2]
    unfold bk0
    by_cases q : j = z
    · rw [if_neg (not_not_intro q), if_pos q]
    · rw [if_pos q, if_neg q]
/-- a minute of the window, or none -/
def cb (s x : Int) : Int := if x = -1 then -1 else x - s
theorem cb_b {s x y : Int} (hx : x = -1 ∨ (s ≤ x ∧ x ≤ y)) (s1 : 0 ≤ s) (y2 : y ≤ 999) : -1 ≤ cb s x ∧ cb s x ≤ 999 := by
  unfold cb
  split <;> omega
theorem cb_1 {s x y : Int} (hx : x = -1 ∨ (s ≤ x ∧ x ≤ y)) (s1 : 0 ≤ s) : (cb s x = -1) = (x = -1) := by
  unfold cb
  simp only [eq_iff_iff]
  split <;> omega
theorem cb_lt {s x y t : Int} (hx : x = -1 ∨ (s ≤ x ∧ x ≤ y)) (s1 : 0 ≤ s) (t1 : 0 ≤ t) : (cb s x < t) = (x < s + t) := by
  unfold cb
  simp only [eq_iff_iff]
  split <;> omega
def Brow (g : Nat → Int32) (s : Int) (B : Int → Int) : Prop := Arow g (fun i => cb s (B i))
theorem Brow.up {g : Nat → Int32} {s : Int} {B : Int → Int} (h : Brow g s B) {k : Int} (h1 : 0 ≤ k) {x y : Int} (e : cb s y = x) : Brow (upd g k.toNat (I x)) s (fup B k y) := by
  intro i i1 i2
  by_cases q : i = k
  · subst q
    rw [ud_eq]
    show I x = I (cb s (fup B i y i))
    rw [fup_eq, e]
  · rw [ud_ne (by omega)]
    show _ = I (cb s (fup B k y i))
    rw [fup_ne q]
    exact h i i1 i2
theorem x_ls61 (N : Nat) {u : USt} {s sp p n t : Int} {x1 : Int32} {P : Int → Int} {L : Int → Int → Int} (hT : Tab u s sp p n n P L) (hnet : Net n P L) (k44 : USt → Int32 → Int32 → Option (Int32 × USt)) (n2 : n ≤ 10) (s1 : 0 ≤ s) (s2 : s + sp ≤ 999) (sp1 : 0 ≤ sp) (p1 : 1 ≤ p) (p2 : p ≤ 9) (t1 : 0 ≤ t) (t2 : t + p ≤ sp) : ∀ (d f : Nat) (j : Int) (g : Nat → Int32) (B : Int → Int), d < f → (d : Int) = n - j → 0 ≤ j → Brow g s B → Bok B (s + t) (s + sp) → ∃ g' : Nat → Int32, Brow g' s (bkR p P L (s + t) d j B) ∧ mX9_latestStart_h61 N k44 f (sfX u 17 g) x1 (I t) (I j) = k44 (sfX u 17 g') x1 (I (t - 1)) := by
  intro d
  induction d with
  | zero =>
    intro f j g B hf hd hj hg hA
    obtain ⟨f, rfl⟩ : ∃ g, f = g + 1 := ⟨f - 1, by omega⟩
    refine ⟨g, hg, ?_⟩
    show mX9_latestStart_61 N _ _ _ _ _ _ = _
    unfold mX9_latestStart_61
    simp only [nm]
    have e18 : (sfX u 17 g).1 18 = I n := hT.2.2.2.1
    rw [e18, if_pos (by rw [I_le (by omega) (by omega) (by omega) (by omega)]; omega), show (-1 : Int32) = I (-1) from rfl, I_add, show t + -1 = t - 1 by omega]
  | succ d ih =>
    intro f j g B hf hd hj hg hA
    obtain ⟨f, rfl⟩ : ∃ g, f = g + 1 := ⟨f - 1, by omega⟩
    have hT' : Tab (sfX u 17 g) s sp p n n P L := hT.keep n2 rfl (fun c hc => vu_ne (by omega))
    have e18 : (sfX u 17 g).1 18 = I n := hT.2.2.2.1
    have e17 : (sfX u 17 g).1 17 = I p := hT.2.2.1
    have ea : (sfX u 17 g).2 17 = g := sfX_g _ _ _
    have hnj := hnet j hj (by omega)
    have hL := hnj.2 (s + t) (by omega)
    have hrow := ((hT'.2.2.2.2 j hj (by omega)).1 t t1 (by omega)).2
    have e : bkR p P L (s + t) (d + 1) j B = bkR p P L (s + t) d (j + 1) (bk1 p (P j) (L j (s + t)) (s + t) B) := rfl
    rw [e]
    show ∃ g' : Nat → Int32, _ ∧ mX9_latestStart_61 N _ _ _ _ _ _ = _
    unfold mX9_latestStart_61 mX9_latestStart_135 mX9_latestStart_170
    simp only [nm]
    rw [x_landing N hT' hj (by omega) n2 (by omega) (by omega) sp1 (by omega) p1 p2, if_pos (show 0 ≤ t ∧ t + p ≤ sp from ⟨t1, t2⟩), Option.bind_some, e18, e17]
    simp (disch := omega) only [I_lit, I_le, I_neg, I_eq, I_add, rdX_14]
    rw [if_neg (by omega)]
    by_cases q : L j (s + t) = -1
    · have ew : bk1 p (P j) (L j (s + t)) (s + t) B = B := if_pos q
      rw [if_neg (not_not_intro q), ew]
      exact ih f (j + 1) g B (by omega) (by omega) (by omega) hg hA
    · obtain ⟨r14, -, -⟩ := hrow q
      have r14 : va_up u.2 17 g 14 j.toNat = I (P j) := r14
      rw [if_pos q, r14]
      generalize hone : P j = one at *
      generalize htwo : L j (s + t) = two at *
      have hA1 := hA one hnj.1.1 (by omega)
      have hA2 := hA two (by omega) (by omega)
      have g1 : g one.toNat = I (cb s (B one)) := hg one (by omega) (by omega)
      have g2 : g two.toNat = I (cb s (B two)) := hg two (by omega) (by omega)
      have b1 := cb_b (s := s) (x := B one) (y := s + sp) (by omega) s1 (by omega)
      have b2 := cb_b (s := s) (x := B two) (y := s + sp) (by omega) s1 (by omega)
      simp (disch := omega) only [rdX_17, wrX_17, ea, vu_eq, g1, g2, I_lt, I_eq, saX_sfX]
      have l1 := cb_lt (s := s) (x := B one) (y := s + sp) (t := t + p) (by omega) s1 (by omega)
      have l2 := cb_lt (s := s) (x := B two) (y := s + sp) (t := t + p) (by omega) s1 (by omega)
      have v1 := cb_1 (s := s) (x := B one) (y := s + sp) (by omega) s1
      have v2 := cb_1 (s := s) (x := B two) (y := s + sp) (by omega) s1
      rw [eq_iff_iff] at l1 l2 v1 v2
      have ecv : cb s (s + t) = t := by
        unfold cb
        rw [if_neg (by omega)]
        omega
      by_cases c1 : s + t + p ≤ B one ∧ B two = -1
      · have ew : bk1 p one two (s + t) B = fup B two (s + t) := by
          unfold bk1
          rw [if_neg q, if_pos c1]
        rw [if_neg (by omega), if_neg (not_not_intro (v2.2 c1.2)), ew]
        exact ih f (j + 1) _ _ (by omega) (by omega) (by omega) (hg.up (by omega) ecv) (by
          have := bk1_ok (p := p) (one := one) (two := two) hA (show s + t ≤ s + sp by omega)
          rw [ew] at this
          exact this)
      · by_cases c2 : s + t + p ≤ B two ∧ B one = -1
        · have ew : bk1 p one two (s + t) B = fup B one (s + t) := by
            unfold bk1
            rw [if_neg q, if_neg c1, if_pos c2]
          rw [if_pos (by omega), if_neg (by omega), if_neg (not_not_intro (v1.2 c2.2)), ew]
          exact ih f (j + 1) _ _ (by omega) (by omega) (by omega) (hg.up (by omega) ecv) (by
            have := bk1_ok (p := p) (one := one) (two := two) hA (show s + t ≤ s + sp by omega)
            rw [ew] at this
            exact this)
        · have ew : bk1 p one two (s + t) B = B := by
            unfold bk1
            rw [if_neg q, if_neg c1, if_neg c2]
          rw [ew]
          obtain ⟨g', i1, i3⟩ := ih f (j + 1) g B (by omega) (by omega) (by omega) hg hA
          refine ⟨g', i1, ?_⟩
          rw [← i3]
          (repeat' split) <;> first | rfl | (exfalso; omega)
theorem x_ls44 {u : USt} {s sp p n x : Int} {P : Int → Int} {L : Int → Int → Int} (hT : Tab u s sp p n n P L) (hnet : Net n P L) (n1 : 0 ≤ n) (n2 : n ≤ 10) (s1 : 0 ≤ s) (s2 : s + sp ≤ 999) (sp1 : 0 ≤ sp) (p1 : 1 ≤ p) (p2 : p ≤ 9) (x1 : 0 ≤ x) (x2 : x < 8) : ∀ (d f : Nat) (t : Int) (g : Nat → Int32) (B : Int → Int), d < f → ((d : Int) = t + 1 ∨ (d = 0 ∧ t < 0)) → -9 ≤ t → t + p ≤ sp → Brow g s B → Bok B (s + t) (s + sp) → Bok B s (s + sp) → ∃ g' : Nat → Int32, mX9_latestStart_h44 NF f (sfX u 17 g) (I x) (I t) = some (I (cb s (bkT p P L n.toNat d (s + t) B x)), sfX u 17 g') := by
  have hb := NF_big
  intro d
  induction d with
  | zero =>
    intro f t g B hf hd ht ht2 hg hB hB0
    obtain ⟨f, rfl⟩ : ∃ g, f = g + 1 := ⟨f - 1, by omega⟩
    refine ⟨g, ?_⟩
    show mX9_latestStart_44 NF _ _ _ _ = _
    unfold mX9_latestStart_44 mX9_latestStart_182
    have ea : (sfX u 17 g).2 17 = g := sfX_g _ _ _
    rw [show (0 : Int32) = I 0 from rfl, if_pos (by rw [I_lt (by omega) (by omega) (by omega) (by omega)]; omega), rdX_17 x1 x2, ea, hg x x1 x2]
    rfl
  | succ d ih =>
    intro f t g B hf hd ht ht2 hg hB hB0
    obtain ⟨f, rfl⟩ : ∃ g, f = g + 1 := ⟨f - 1, by omega⟩
    have ea : (sfX u 17 g).2 17 = g := sfX_g _ _ _
    have hx := hB0 x x1 x2
    have gx : g x.toNat = I (cb s (B x)) := hg x x1 x2
    have b1 := cb_b (s := s) (x := B x) (y := s + sp) (by omega) s1 (by omega)
    have v1 := cb_1 (s := s) (x := B x) (y := s + sp) (by omega) s1
    show ∃ g' : Nat → Int32, mX9_latestStart_44 NF _ _ _ _ = _
    unfold mX9_latestStart_44 mX9_latestStart_182
    simp (disch := omega) only [I_lit, I_lt, rdX_17, ea, vu_eq, gx, I_neg, I_eq, v1]
    rw [if_neg (by omega)]
    by_cases q : B x = -1
    · rw [if_neg (not_not_intro q)]
      obtain ⟨g', i1, i2⟩ := x_ls61 NF (x1 := I x) hT hnet (mX9_latestStart_h44 NF f) n2 s1 s2 sp1 p1 p2 (t := t) (by omega) ht2 n.toNat NF 0 g B (by omega) (by omega) (by omega) hg hB
      have hB2 := bkR_ok (p := p) (P := P) (L := L) (show s + t ≤ s + sp by omega) n.toNat 0 B hB
      obtain ⟨g'', i3⟩ := ih f (t - 1) g' _ (by omega) (by omega) (by omega) (by omega) i1 (hB2.mono (by omega)) (hB2.mono (by omega))
      refine ⟨g'', ?_⟩
      rw [i2, i3]
      have e : bkT p P L n.toNat (d + 1) (s + t) B = bkT p P L n.toNat d (s + t - 1) (bkR p P L (s + t) n.toNat 0 B) := rfl
      rw [e, show s + (t - 1) = s + t - 1 by omega]
    · rw [if_pos q]
      refine ⟨g, ?_⟩
      rw [bkT_st (d + 1) (s + t) B q]
theorem pu_last : Pu_last InvX := by
  have hbig := NF_big
  intro u b v a1 a2 a3 a4 a5 a6 h
  have hh := h
  obtain ⟨x, rfl, x1, x2⟩ := I_ex a1
  obtain ⟨z, rfl, z1, z2⟩ := I_ex a2
  obtain ⟨m, rfl, m1, m2⟩ := I_ex a3
  obtain ⟨y, rfl, y1, y2⟩ := I_ex a4
  obtain ⟨p, rfl, p1, p2⟩ := I_ex a5
  obtain ⟨w, rfl, w1, w2⟩ := I_ex a6
  obtain ⟨n, rw, fr, se, hX, hM, hs, hP, hN, hG⟩ := h
  unfold mX10_last mX10_last_14 mX10_last_38 mX10_last_92 mM_last mM_last_14 mM_last_48
  rw [x_isIslet NF x1 x2, x_isIslet NF z1 z2, x_isMinute NF m1 m2, x_isMinute NF y1 y2, x_isCarrier NF w1 w2 p1 p2, m_isIslet NF x1 x2, m_isIslet NF z1 z2, m_isMinute NF m1 m2, m_isCarrier NF w1 w2 p1 p2]
  simp (disch := omega) only [Option.bind_some, I_lit, bo_0, Decidable.not_not, I_neg, I_le, I_64, Lg_lit, m_in]
  by_cases q1 : 0 ≤ x ∧ x < 8
  · rw [if_neg (not_not_intro q1), if_neg (not_not_intro q1)]
    by_cases q2 : 0 ≤ z ∧ z < 8
    · rw [if_pos q2, if_pos q2]
      by_cases q3 : 0 ≤ m ∧ m ≤ 999
      · rw [if_neg (not_not_intro q3), if_neg (not_not_intro q3)]
        by_cases q5 : m ≤ y ∧ y ≤ 999
        · rw [if_neg (show ¬ ¬ (0 ≤ y ∧ y ≤ 999) by omega), if_pos q5.1, if_neg (not_not_intro q5)]
          by_cases q4 : (1 ≤ p ∧ p ≤ 9) ∧ 1 ≤ w ∧ w ≤ 9
          · rw [if_pos q4, if_pos q4, I_sub]
            obtain ⟨u7, e1, e2, e3⟩ := x_openTable (s := m) (sp := y - m) (p := p) (w := w) se hX hs q3.1 q3.2 (by omega) (by omega) q4.1.1 q4.1.2 q4.2.1 q4.2.2
            obtain ⟨g2, f3⟩ := m_la54 hM (y := y) q5.2 q5.1 q4.1.1 q4.1.2 q4.2.1 q4.2.2 q3.1 q1.1 q1.2 q2.1 q2.2 8 NF 0 (v.2.1 10) (by omega) (by omega) (by omega) (fun i i1 i2 => by omega)
            rw [sfM_self] at f3
            rw [e1, Option.bind_some, f3]
            have hB0 : Bok (bk0 z y) m (m + (y - m)) := fun i i1 i2 => by
              unfold bk0
              split <;> omega
            obtain ⟨g0, h1, h2⟩ := x_fill NF u7 (a := 17) (len := 8) rfl rfl (by omega) (by omega) (-1)
            have hnet := Net_w (p := p) (w := w) hM
            have hrow : Brow (upd g0 z.toNat (I (y - m))) m (bk0 z y) := by
              intro i i1 i2
              by_cases q : i = z
              · subst q
                rw [ud_eq]
                show I (y - m) = I (cb m (bk0 i y i))
                unfold bk0 cb
                rw [if_pos rfl, if_neg (by omega)]
              · rw [ud_ne (by omega), h1 _ (by omega)]
                show (-1 : Int32) = I (cb m (bk0 z y i))
                unfold bk0
                rw [if_neg q]
                rfl
            have hlen : (y - m + 1).toNat = (if p ≤ y - m then p.toNat else (y - m + 1).toNat) + (if p ≤ y - m then (y - m - p + 1).toNat else 0) := by
              split <;> omega
            have hst : ∃ g' : Nat → Int32, mX9_latestStart NF u7 (I x) (I z) = some (I (cb m (bkT p (Pw rw) (Lw (-1) (-1) se fr rw p w) n.toNat (y - m + 1).toNat y (bk0 z y) x)), sfX u7 17 g') := by
              unfold mX9_latestStart mX9_latestStart_14
              simp only [nm]
              rw [x_isIslet NF x1 x2, Option.bind_some, x_isIslet NF z1 z2, Option.bind_some, bo_t (show 0 ≤ x ∧ x < 8 from q1), bo_t (show 0 ≤ z ∧ z < 8 from q2), if_neg (by decide), if_pos (by decide), h2, Option.bind_some, wrX_17 q2.1 q2.2]
              have e16 : (sfX u7 17 g0).1 16 = I (y - m) := e3.2.1
              rw [e16, saX_sfX]
              have e16' : (sfX u7 17 (upd g0 z.toNat (I (y - m)))).1 16 = I (y - m) := e3.2.1
              have e17' : (sfX u7 17 (upd g0 z.toNat (I (y - m)))).1 17 = I p := e3.2.2.1
              rw [show (sfX u7 17 g0).1 17 = I p from e3.2.2.1, I_sub]
              by_cases qp : p ≤ y - m
              · obtain ⟨g', j1⟩ := x_ls44 e3 hnet hX.2.1 hX.2.2.1 q3.1 (by omega) (by omega) q4.1.1 q4.1.2 q1.1 q1.2 (y - m - p + 1).toNat NF (y - m - p) _ (bk0 z y) (by omega) (by omega) (by omega) (by omega) hrow (fun i i1 i2 => by unfold bk0; split <;> omega) hB0
                refine ⟨g', ?_⟩
                rw [j1, hlen, if_pos qp, if_pos qp, bkT_idle (by omega) hnet hX.2.1 hB0 p.toNat _ y (by omega) (by omega), show m + (y - m - p) = y - (p.toNat : Int) by omega]
              · obtain ⟨g', j1⟩ := x_ls44 e3 hnet hX.2.1 hX.2.2.1 q3.1 (by omega) (by omega) q4.1.1 q4.1.2 q1.1 q1.2 0 NF (y - m - p) _ (bk0 z y) (by omega) (by omega) (by omega) (by omega) hrow (fun i i1 i2 => by unfold bk0; split <;> omega) hB0
                refine ⟨g', ?_⟩
                rw [j1, hlen, if_neg qp, if_neg qp, bkT_idle (by omega) hnet hX.2.1 hB0 (y - m + 1).toNat 0 y (by omega) (by omega)]
                rfl
            obtain ⟨g', j1⟩ := hst
            have hfin : Bok (bkT p (Pw rw) (Lw (-1) (-1) se fr rw p w) n.toNat (y - m + 1).toNat y (bk0 z y)) m y := by
              have : ∀ (d : Nat) (t : Int) (B : Int → Int), (d : Int) = t - m + 1 → t ≤ y → Bok B t y → Bok B m y → Bok (bkT p (Pw rw) (Lw (-1) (-1) se fr rw p w) n.toNat d t B) m y := by
                intro d
                induction d with
                | zero => exact fun t B _ _ _ hB => hB
                | succ d ih =>
                  intro t B hd ht hB _
                  have hk := bkR_ok (p := p) (P := Pw rw) (L := Lw (-1) (-1) se fr rw p w) ht n.toNat 0 B hB
                  exact ih (t - 1) _ (by omega) (by omega) (hk.mono (by omega)) (hk.mono (by omega))
              exact this _ y _ (by omega) (by omega) (fun i i1 i2 => by unfold bk0; split <;> omega) (fun i i1 i2 => by unfold bk0; split <;> omega)
            rw [j1, bp_some]
            have hx := hfin x q1.1 q1.2
            generalize bkT p (Pw rw) (Lw (-1) (-1) se fr rw p w) n.toNat (y - m + 1).toNat y (bk0 z y) x = r at *
            refine ⟨I r, sfX u7 17 g', sfM v 10 g2, ?_, rfl, hh.keep (e2.trans (KX_sf _ _ (by omega))) (KM_sf _ _ (by omega))⟩
            unfold cb
            by_cases qz : r = -1
            · rw [if_pos qz, if_neg (by decide), qz]
            · rw [if_neg qz, if_pos (by rw [I_eq (by omega) (by omega) (by omega) (by omega)]; omega), I_add, show m + (r - m) = r by omega]
          · rw [if_neg q4, if_neg q4]
            exact ⟨_, _, _, rfl, rfl, hh⟩
        · rw [if_pos q5]
          refine ⟨I (-102), u, v, ?_, rfl, hh⟩
          (repeat' split) <;> first | rfl | (exfalso; omega)
      · rw [if_pos q3, if_pos q3]
        exact ⟨_, _, _, rfl, rfl, hh⟩
    · rw [if_neg q2, if_neg q2]
      exact ⟨_, _, _, rfl, rfl, hh⟩
  · rw [if_pos q1, if_pos q1]
    exact ⟨_, _, _, rfl, rfl, hh⟩
