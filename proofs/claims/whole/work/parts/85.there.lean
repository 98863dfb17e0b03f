/-- first minutes in the islets: what one row of the table does in a minute -/
def wy1 (p lim one two t : Int) (A : Int → Int) : Int → Int := if two = -1 ∨ lim < t + p then A else if A one ≤ t ∧ A two = 100000 then fup A two (t + p) else if A two ≤ t ∧ A one = 100000 then fup A one (t + p) else A
def wyR (p lim : Int) (P : Int → Int) (L : Int → Int → Int) (t : Int) : Nat → Int → (Int → Int) → Int → Int
  | 0, _, A => A
  | d + 1, j, A => wyR p lim P L t d (j + 1) (wy1 p lim (P j) (L j t) t A)
def wyT (p lim : Int) (P : Int → Int) (L : Int → Int → Int) (n : Nat) : Nat → Int → (Int → Int) → Int → Int
  | 0, _, A => A
  | d + 1, t, A => wyT p lim P L n d (t + 1) (wyR p lim P L t n 0 A)
def wy0 (f m : Int) : Int → Int := fun i => if i = f then m else 100000
/-- first minutes from f in minute m on -/
def arr (p : Int) (P : Int → Int) (L : Int → Int → Int) (n : Nat) (f m : Int) : Int → Int := wyT p (m + 400) P L n 400 m (wy0 f m)
/-- a net of rows: pivots and landings -/
def Net (n : Int) (P : Int → Int) (L : Int → Int → Int) : Prop := ∀ k, 0 ≤ k → k < n → (0 ≤ P k ∧ P k ≤ 7) ∧ ∀ t, 0 ≤ t → -1 ≤ L k t ∧ L k t ≤ 7 ∧ L k t ≠ P k
def Aok (A : Int → Int) (x : Int) : Prop := ∀ i, 0 ≤ i → i < 8 → A i = 100000 ∨ (0 ≤ A i ∧ A i ≤ x)
theorem Aok.mono {A : Int → Int} {x y : Int} (h : Aok A x) (hxy : x ≤ y) : Aok A y := fun i i1 i2 => by
  have := h i i1 i2
  omega
theorem Aok.up {A : Int → Int} {x k y : Int} (h : Aok A x) (h1 : 0 ≤ y) (h2 : y ≤ x) : Aok (fup A k y) x := fun i i1 i2 => by
  unfold fup
  split
  · exact .inr ⟨h1, h2⟩
  · exact h i i1 i2
theorem wy1_ok {p lim one two t x : Int} {A : Int → Int} (h : Aok A x) (h1 : 0 ≤ t + p) (h2 : t + p ≤ x) : Aok (wy1 p lim one two t A) x := by
  unfold wy1
  split
  · exact h
  · split
    · exact h.up h1 h2
    · split
      · exact h.up h1 h2
      · exact h
theorem wyR_ok {p lim t x : Int} {P : Int → Int} {L : Int → Int → Int} (h1 : 0 ≤ t + p) (h2 : t + p ≤ x) : ∀ (d : Nat) (j : Int) (A : Int → Int), Aok A x → Aok (wyR p lim P L t d j A) x
  | 0, _, _, h => h
  | d + 1, j, _, h => wyR_ok h1 h2 d (j + 1) _ (wy1_ok h h1 h2)
def Arow (g : Nat → Int32) (A : Int → Int) : Prop := ∀ i : Int, 0 ≤ i → i < 8 → g i.toNat = I (A i)
theorem Arow.up {g : Nat → Int32} {A : Int → Int} (h : Arow g A) {k : Int} (h1 : 0 ≤ k) (x : Int) : Arow (upd g k.toNat (I x)) (fup A k x) := by
  intro i i1 i2
  unfold fup
  by_cases q : i = k
  · subst q
    rw [ud_eq, if_pos rfl]
  · rw [ud_ne (by omega), if_neg q]
    exact h i i1 i2
theorem fup_self (A : Int → Int) (k : Int) : fup A k (A k) = A := by
  funext z
  unfold fup
  split
  · rename_i q
    rw [q]
  · rfl
theorem saM_sfM (v : MSt) (k : Nat) (g : Nat → Int32) (j : Nat) (x : Int32) : saM (sfM v k g) k j x = sfM v k (upd g j x) := by
  unfold saM sfM
  simp only [vu_eq, va_up_2]
theorem sfM_g (v : MSt) (k : Nat) (g : Nat → Int32) : (sfM v k g).2.1 k = g := by
  unfold sfM
  exact vu_eq _ _ _
theorem sfM_ne {v : MSt} {k j : Nat} {g : Nat → Int32} (h : j ≠ k) : (sfM v k g).2.1 j = v.2.1 j := by
  unfold sfM
  exact vu_ne h
/-- where a row of the reference lets one land -/
def Lw (wo sk se fr : Int) (rw : Int → Int) (p w k t : Int) : Int := if w ≤ rowk rw k 9 ∧ p ≤ lsW wo sk se fr (rowk rw k) k t then jnW wo sk se fr (rowk rw k) k t else -1
def Pw (rw : Int → Int) (k : Int) : Int := rowk rw k 1
theorem Net_w {v : MSt} {rw : Int → Int} {n fr wo sk se p w : Int} (hM : Mst v rw n fr wo sk se) : Net n (Pw rw) (Lw wo sk se fr rw p w) := by
  obtain ⟨hr, hf, hf2, hn, hn1, hn2, hwo, hsk, hse, hwo2, hsk2, hse2, hv⟩ := hM
  intro k k1 k2
  have hb := hv k k1 k2
  refine ⟨hb.2.1, fun t t1 => ?_⟩
  have hj := jnW_b (wo := wo) (sk := sk) (se := se) (fr := fr) (k := k) (t := t) hb (fun q => by subst q; exact hse2 k1)
  have := hb.2.1
  unfold Lw Pw
  split <;> omega
theorem m_lt184 (N : Nat) {v : MSt} (k38 : MSt → Int32 → Int32 → Int32 → Int32 → Option MSt) (k51 : MSt → Int32 → Int32 → Int32 → Int32 → Int32 → Option MSt) {g : Nat → Int32} {A : Int → Int} (hg : Arow g A) {one two x on ba : Int} {x2 x3 x4 x5 x6 : Int32} (o1 : 0 ≤ one) (o2 : one < 8) (w1 : 0 ≤ two) (w2 : two < 8) (hne : two ≠ one) (h1 : on = 0 ∨ on = 1) (h2 : ba = 0 ∨ ba = 1) : mM_layThere_184 N k38 k51 (sfM v 10 g) x2 x3 x4 x5 x6 (I one) (I two) (I x) (I on) (I ba) = k51 (sfM v 10 (upd (upd g two.toNat (I (if on = 0 then A two else x))) one.toNat (I (if ba = 0 then A one else x)))) x2 x3 x4 x5 (x6 + 1) := by
  have g1 := hg one o1 o2
  have g2 := hg two w1 w2
  have e : ∀ y, upd g two.toNat y one.toNat = I (A one) := fun y => (ud_ne (by omega)).trans g1
  have z0 : (I 0 = (0 : Int32)) = True := by simp; rfl
  have z1 : (I 1 = (0 : Int32)) = False := eq_false (by decide)
  have q0 : ((0 : Int) = 0) = True := by simp
  have q1 : ((1 : Int) = 0) = False := by simp
  unfold mM_layThere_184 mM_layThere_209 mM_layThere_233 mM_layThere_234
  rcases h1 with rfl | rfl <;> rcases h2 with rfl | rfl <;> simp (disch := omega) only [nm, wr_I, rd_I, sfM_g, vu_eq, g2, e, saM_sfM, z0, z1, q0, q1, if_true, if_false]
theorem bo_01 (p : Prop) [Decidable p] : bo p = 0 ∨ bo p = 1 := by
  by_cases q : p
  · exact .inr (bo_t q)
  · exact .inl (bo_f q)
theorem m_lt143 (N : Nat) {v : MSt} (k38 : MSt → Int32 → Int32 → Int32 → Int32 → Option MSt) (k51 : MSt → Int32 → Int32 → Int32 → Int32 → Int32 → Option MSt) {g : Nat → Int32} {A : Int → Int} (hg : Arow g A) {one two x m t : Int} {on x3 x4 x6 : Int32} (hA : Aok A 20000) (o1 : 0 ≤ one) (o2 : one < 8) (w1 : 0 ≤ two) (w2 : two < 8) (m1 : 0 ≤ m) (m2 : m ≤ 999) (x1 : 0 ≤ x) (x2 : x ≤ 10000) (t1 : 0 ≤ t) (t2 : t ≤ 10000) : mM_layThere_143 N k38 k51 (sfM v 10 g) (I m) x3 x4 (I t) x6 (I one) (I two) (I x) on = mM_layThere_184 N k38 k51 (sfM v 10 g) (I m) x3 x4 (I t) x6 (I one) (I two) (I x) on (I (bo (A two ≤ t ∧ x < A one ∧ x ≤ m + 400))) := by
  have g1 := hg one o1 o2
  have g2 := hg two w1 w2
  have hA1 := hA one o1 o2
  have hA2 := hA two w1 w2
  unfold mM_layThere_143 mM_layThere_183
  simp (disch := omega) only [rd_I, sfM_g, g1, g2, I_lt, I_le, I_lit, I_add]
  unfold bo
  (repeat' split) <;> first | rfl | (exfalso; omega)
theorem m_lt_step (N : Nat) {v : MSt} {rw : Int → Int} {n fr wo sk se m p w t j : Int} (hM : Mst v rw n fr wo sk se) (k38 : MSt → Int32 → Int32 → Int32 → Int32 → Option MSt) (k51 : MSt → Int32 → Int32 → Int32 → Int32 → Int32 → Option MSt) {g : Nat → Int32} {A : Int → Int} (hg : Arow g A) (hA : Aok A (t + p)) (j1 : 0 ≤ j) (j2 : j < n) (t1 : 0 ≤ t) (t2 : t ≤ 5000) (p1 : 1 ≤ p) (p2 : p ≤ 9) (w1 : 1 ≤ w) (w2 : w ≤ 9) (m1 : 0 ≤ m) (m2 : m ≤ 999) : ∃ g', Arow g' (wy1 p (m + 400) (Pw rw j) (Lw wo sk se fr rw p w j t) t A) ∧ mM_layThere_51 N k38 k51 (sfM v 10 g) (I m) (I p) (I w) (I t) (I j) = k51 (sfM v 10 g') (I m) (I p) (I w) (I t) (I (j + 1)) := by
  have hM' : Mst (sfM v 10 g) rw n fr wo sk se := hM
  have hM2 := hM'
  have hnet := Net_w (p := p) (w := w) hM j j1 j2
  have hland := hnet.2 t t1
  have hone := hnet.1
  obtain ⟨hr, hf, hf2, hn, hn1, hn2, hrest⟩ := hM'
  have e1 : rw (10 * j + 1) = Pw rw j := rfl
  unfold mM_layThere_51
  haveI : Decidable (mg wo sk se fr (rowk rw j) j t p w) := Classical.propDecidable _
  rw [mM_mayGo_I N hM2 j1 j2 t1 (by omega) p1 p2 w1 w2, mM_joinsNow_I N hM2 j1 j2 t1 (by omega)]
  rw [hn]
  by_cases q : mg wo sk se fr (rowk rw j) j t p w
  · have eL : Lw wo sk se fr rw p w j t = jnW wo sk se fr (rowk rw j) j t := if_pos q
    rw [← eL, if_pos q]
    have hne : Lw wo sk se fr rw p w j t ≠ -1 := by
      intro h
      have q2 := q.2
      unfold lsW at q2
      rw [← eL, if_pos h] at q2
      omega
    generalize Lw wo sk se fr rw p w j t = two at *
    generalize hP : Pw rw j = one at *
    have hA1 := hA one hone.1 (by omega)
    have hA2 := hA two (by omega) (by omega)
    have g1 := hg one hone.1 (by omega)
    have g2 := hg two (by omega) (by omega)
    have hres : mM_layThere_51 N k38 k51 (sfM v 10 g) (I m) (I p) (I w) (I t) (I j) = mM_layThere_51 N k38 k51 (sfM v 10 g) (I m) (I p) (I w) (I t) (I j) := rfl
    refine ⟨upd (upd g two.toNat (I (if bo (A one ≤ t ∧ t + p < A two ∧ t + p ≤ m + 400) = 0 then A two else t + p))) one.toNat (I (if bo (A two ≤ t ∧ t + p < A one ∧ t + p ≤ m + 400) = 0 then A one else t + p)), ?_, ?_⟩
    · have H := (hg.up (k := two) (by omega) (if bo (A one ≤ t ∧ t + p < A two ∧ t + p ≤ m + 400) = 0 then A two else t + p)).up (k := one) (by omega) (if bo (A two ≤ t ∧ t + p < A one ∧ t + p ≤ m + 400) = 0 then A one else t + p)
      have E : fup (fup A two (if bo (A one ≤ t ∧ t + p < A two ∧ t + p ≤ m + 400) = 0 then A two else t + p)) one (if bo (A two ≤ t ∧ t + p < A one ∧ t + p ≤ m + 400) = 0 then A one else t + p) = wy1 p (m + 400) one two t A := by
        unfold wy1
        by_cases c1 : A one ≤ t ∧ A two = 100000 ∧ t + p ≤ m + 400
        · have b1 : bo (A one ≤ t ∧ t + p < A two ∧ t + p ≤ m + 400) = 1 := bo_t (by omega)
          have b2 : bo (A two ≤ t ∧ t + p < A one ∧ t + p ≤ m + 400) = 0 := bo_f (by omega)
          rw [b1, b2, if_neg (show ¬ (1 : Int) = 0 by omega), if_pos (show (0 : Int) = 0 from rfl), if_neg (show ¬ (two = -1 ∨ m + 400 < t + p) by omega), if_pos (show A one ≤ t ∧ A two = 100000 from ⟨c1.1, c1.2.1⟩)]
          rw [show A one = fup A two (t + p) one from (fup_ne (by omega)).symm, fup_self]
        · by_cases c2 : A two ≤ t ∧ A one = 100000 ∧ t + p ≤ m + 400
          · have b1 : bo (A one ≤ t ∧ t + p < A two ∧ t + p ≤ m + 400) = 0 := bo_f (by omega)
            have b2 : bo (A two ≤ t ∧ t + p < A one ∧ t + p ≤ m + 400) = 1 := bo_t (by omega)
            rw [b1, b2, if_neg (show ¬ (1 : Int) = 0 by omega), if_pos (show (0 : Int) = 0 from rfl), if_neg (show ¬ (two = -1 ∨ m + 400 < t + p) by omega), if_neg (show ¬ (A one ≤ t ∧ A two = 100000) by omega), if_pos (show A two ≤ t ∧ A one = 100000 from ⟨c2.1, c2.2.1⟩), fup_self]
          · have b1 : bo (A one ≤ t ∧ t + p < A two ∧ t + p ≤ m + 400) = 0 := bo_f (by omega)
            have b2 : bo (A two ≤ t ∧ t + p < A one ∧ t + p ≤ m + 400) = 0 := bo_f (by omega)
            rw [b1, b2, if_pos (show (0 : Int) = 0 from rfl), if_pos (show (0 : Int) = 0 from rfl), fup_self, fup_self]
            (repeat' split) <;> first | rfl | (exfalso; omega)
      rw [E] at H
      exact H
    · rw [Option.bind_some, if_neg (by rw [I_le (by omega) (by omega) (by omega) (by omega)]; omega), if_neg (show ¬ (1 : Int32) = 0 by decide)]
      rw [show ((10 : Int32) * I j + 1) = I (10 * j + 1) from by rw [show (10 : Int32) = I 10 from rfl, show (1 : Int32) = I 1 from rfl, I_mul, I_add], rd_I (by omega) (by omega) (by omega), hr (10 * j + 1) (by omega) (by omega), e1, Option.bind_some]
      unfold nm mM_layThere_142
      simp (disch := omega) only [rd_I, sfM_g, g1, g2, I_add, I_lt, I_le]
      rw [show (0 : Int32) = I 0 from rfl, show (1 : Int32) = I 1 from rfl, show (400 : Int32) = I 400 from rfl]
      simp (disch := omega) only [m_lt143 N k38 k51 hg (hA.mono (show t + p ≤ 20000 by omega)), I_add, I_lt]
      rw [m_lt184 N k38 k51 hg (by omega) (by omega) (by omega) (by omega) (by omega) (.inl rfl) (bo_01 _), m_lt184 N k38 k51 hg (by omega) (by omega) (by omega) (by omega) (by omega) (.inr rfl) (bo_01 _), show I j + 1 = I (j + 1) from I_add j 1]
      by_cases c1 : A one ≤ t ∧ t + p < A two ∧ t + p ≤ m + 400
      · rw [bo_t c1, if_neg (by omega), if_neg (by omega), if_neg (by omega)]
      · rw [bo_f c1]
        (repeat' split) <;> first | rfl | (exfalso; omega)
  · have eL : Lw wo sk se fr rw p w j t = -1 := if_neg q
    rw [if_neg q, Option.bind_some, if_pos rfl, if_neg (by rw [I_le (by omega) (by omega) (by omega) (by omega)]; omega), eL]
    unfold mM_layThere_234
    rw [show I j + 1 = I (j + 1) from I_add j 1]
    exact ⟨g, by unfold wy1; rw [if_pos (.inl rfl)]; exact hg, rfl⟩
theorem m_lt51 (N : Nat) {v : MSt} {rw : Int → Int} {n fr wo sk se m p w t : Int} (hM : Mst v rw n fr wo sk se) (k38 : MSt → Int32 → Int32 → Int32 → Int32 → Option MSt) (t1 : 0 ≤ t) (t2 : t ≤ 5000) (p1 : 1 ≤ p) (p2 : p ≤ 9) (w1 : 1 ≤ w) (w2 : w ≤ 9) (m1 : 0 ≤ m) (m2 : m ≤ 999) : ∀ (d f : Nat) (j : Int) (g : Nat → Int32) (A : Int → Int), d < f → (d : Int) = n - j → 0 ≤ j → Arow g A → Aok A (t + p) → ∃ g', Arow g' (wyR p (m + 400) (Pw rw) (Lw wo sk se fr rw p w) t d j A) ∧ mM_layThere_h51 N k38 f (sfM v 10 g) (I m) (I p) (I w) (I t) (I j) = k38 (sfM v 10 g') (I m) (I p) (I w) (I (t + 1)) := by
  have hn : v.1 4 = I n := hM.2.2.2.1
  have hn1 := hM.2.2.2.2.1
  have hn2 := hM.2.2.2.2.2.1
  intro d
  induction d with
  | zero =>
    intro f j g A hf hd hj hg hA
    obtain ⟨f, rfl⟩ : ∃ g, f = g + 1 := ⟨f - 1, by omega⟩
    refine ⟨g, hg, ?_⟩
    show mM_layThere_51 N _ _ _ _ _ _ _ _ = _
    unfold mM_layThere_51
    have e : (sfM v 10 g).1 4 = I n := hn
    rw [e]
    simp (disch := omega) only [I_le, I_lit, I_add]
    rw [if_pos (by omega)]
  | succ d ih =>
    intro f j g A hf hd hj hg hA
    obtain ⟨f, rfl⟩ : ∃ g, f = g + 1 := ⟨f - 1, by omega⟩
    obtain ⟨g', h1, h2⟩ := m_lt_step N hM k38 (mM_layThere_h51 N k38 f) hg hA hj (by omega) t1 t2 p1 p2 w1 w2 m1 m2
    obtain ⟨g'', h3, h4⟩ := ih f (j + 1) g' _ (by omega) (by omega) (by omega) h1 (wy1_ok hA (by omega) (by omega))
    refine ⟨g'', h3, ?_⟩
    show mM_layThere_51 N _ _ _ _ _ _ _ _ = _
    rw [h2, h4]
theorem m_lt38 {v : MSt} {rw : Int → Int} {n fr wo sk se m p w : Int} (hM : Mst v rw n fr wo sk se) (p1 : 1 ≤ p) (p2 : p ≤ 9) (w1 : 1 ≤ w) (w2 : w ≤ 9) (m1 : 0 ≤ m) (m2 : m ≤ 999) : ∀ (d f : Nat) (t : Int) (g : Nat → Int32) (A : Int → Int), d < f → (d : Int) = m + 400 - t → m ≤ t → Arow g A → Aok A (t + p) → ∃ g', Arow g' (wyT p (m + 400) (Pw rw) (Lw wo sk se fr rw p w) n.toNat d t A) ∧ mM_layThere_h38 NF f (sfM v 10 g) (I m) (I p) (I w) (I t) = some (sfM v 10 g') := by
  have hb := NF_big
  have hn1 := hM.2.2.2.2.1
  have hn2 := hM.2.2.2.2.2.1
  intro d
  induction d with
  | zero =>
    intro f t g A hf hd hj hg hA
    obtain ⟨f, rfl⟩ : ∃ g, f = g + 1 := ⟨f - 1, by omega⟩
    refine ⟨g, hg, ?_⟩
    show mM_layThere_38 NF _ _ _ _ _ _ = _
    unfold mM_layThere_38
    simp (disch := omega) only [I_le, I_lit, I_add]
    rw [if_pos (by omega)]
  | succ d ih =>
    intro f t g A hf hd hj hg hA
    obtain ⟨f, rfl⟩ : ∃ g, f = g + 1 := ⟨f - 1, by omega⟩
    obtain ⟨g', h1, h2⟩ := m_lt51 NF hM (mM_layThere_h38 NF f) (t := t) (by omega) (by omega) p1 p2 w1 w2 m1 m2 n.toNat NF 0 g A (by omega) (by omega) (by omega) hg hA
    obtain ⟨g'', h3, h4⟩ := ih f (t + 1) g' _ (by omega) (by omega) (by omega) h1 ((wyR_ok (by omega) (Int.le_refl _) _ _ _ hA).mono (by omega))
    refine ⟨g'', h3, ?_⟩
    show mM_layThere_38 NF _ _ _ _ _ _ = _
    unfold mM_layThere_38
    simp (disch := omega) only [I_le, I_lit, I_add]
    rw [if_neg (by omega), h2, h4]
theorem m_lt3 {v : MSt} {rw : Int → Int} {n fr wo sk se m p w x : Int} (hM : Mst v rw n fr wo sk se) (p1 : 1 ≤ p) (p2 : p ≤ 9) (w1 : 1 ≤ w) (w2 : w ≤ 9) (m1 : 0 ≤ m) (m2 : m ≤ 999) (x1 : 0 ≤ x) (x2 : x < 8) : ∀ (d f : Nat) (j : Int) (g : Nat → Int32), d < f → (d : Int) = 8 - j → 0 ≤ j → (∀ i : Int, 0 ≤ i → i < j → g i.toNat = I (wy0 x m i)) → ∃ g', Arow g' (arr p (Pw rw) (Lw wo sk se fr rw p w) n.toNat x m) ∧ mM_layThere_h3 NF f (sfM v 10 g) (I x) (I m) (I p) (I w) (I j) = some (sfM v 10 g') := by
  have hb := NF_big
  intro d
  induction d with
  | zero =>
    intro f j g hf hd hj hg
    obtain ⟨f, rfl⟩ : ∃ g, f = g + 1 := ⟨f - 1, by omega⟩
    obtain ⟨g', h1, h2⟩ := m_lt38 hM p1 p2 w1 w2 m1 m2 400 NF m g (wy0 x m) (by omega) (by omega) (by omega) (fun i i1 i2 => hg i i1 (by omega)) (fun i i1 i2 => by unfold wy0; split <;> omega)
    refine ⟨g', h1, ?_⟩
    show mM_layThere_3 NF _ _ _ _ _ _ _ = _
    unfold mM_layThere_3
    simp (disch := omega) only [I_le, I_lit]
    rw [if_pos (by omega), h2]
  | succ d ih =>
    intro f j g hf hd hj hg
    obtain ⟨f, rfl⟩ : ∃ g, f = g + 1 := ⟨f - 1, by omega⟩
    have hnx : ∀ i : Int, 0 ≤ i → i < j + 1 → upd g j.toNat (I (wy0 x m j)) i.toNat = I (wy0 x m i) := by
      intro i i1 i2
      by_cases q : i = j
      · subst q
        rw [ud_eq]
      · rw [ud_ne (by omega)]
        exact hg i i1 (by omega)
    obtain ⟨g', h1, h2⟩ := ih f (j + 1) (upd g j.toNat (I (wy0 x m j))) (by omega) (by omega) (by omega) hnx
    refine ⟨g', h1, ?_⟩
    show mM_layThere_3 NF _ _ _ _ _ _ _ = _
    unfold mM_layThere_3 mM_layThere_28 nm
    simp (disch := omega) only [I_le, I_lit, I_eq, wr_I, saM_sfM, I_add]
    rw [if_neg (by omega)]
    unfold wy0 at h2
    by_cases q : j = x
    · rw [if_neg (not_not_intro q)]
      rw [if_pos q] at h2
      exact h2
    · rw [if_pos q]
      rw [if_neg q] at h2
      exact h2
/-- the reference's layThere -/
theorem m_layThere {v : MSt} {rw : Int → Int} {n fr wo sk se m p w x : Int} (hM : Mst v rw n fr wo sk se) (p1 : 1 ≤ p) (p2 : p ≤ 9) (w1 : 1 ≤ w) (w2 : w ≤ 9) (m1 : 0 ≤ m) (m2 : m ≤ 999) (x1 : 0 ≤ x) (x2 : x < 8) : ∃ g', Arow g' (arr p (Pw rw) (Lw wo sk se fr rw p w) n.toNat x m) ∧ mM_layThere NF v (I x) (I m) (I p) (I w) = some (sfM v 10 g') := by
  have hb := NF_big
  obtain ⟨g', h1, h2⟩ := m_lt3 hM p1 p2 w1 w2 m1 m2 x1 x2 8 NF 0 (v.2.1 10) (by omega) (by omega) (by omega) (fun i i1 i2 => by omega)
  rw [sfM_self] at h2
  exact ⟨g', h1, h2⟩
theorem wyT_ok {p lim x : Int} {P : Int → Int} {L : Int → Int → Int} {n : Nat} : ∀ (d : Nat) (t : Int) (A : Int → Int), 0 ≤ t → 0 ≤ p → t + d + p ≤ x + 1 → Aok A x → Aok (wyT p lim P L n d t A) x
  | 0, _, _, _, _, _, h => h
  | d + 1, t, _, t1, h1, h2, h => wyT_ok d (t + 1) _ (by omega) h1 (by omega) (wyR_ok (by omega) (by omega) _ _ _ h)
theorem arr_ok {p m f : Int} {P : Int → Int} {L : Int → Int → Int} {n : Nat} (m1 : 0 ≤ m) (p1 : 1 ≤ p) (p2 : p ≤ 9) : Aok (arr p P L n f m) (m + 409) := by
  unfold arr
  refine wyT_ok 400 m _ m1 (by omega) (by omega) (fun i i1 i2 => ?_)
  unfold wy0
  split <;> omega
/-- SOONEST -/
def soo (A : Int → Int) (i : Int) : Int := if A i = 100000 then -1 else A i
theorem m_soonestOf {v : MSt} {rw : Int → Int} {n fr wo sk se m p w x y : Int} (hM : Mst v rw n fr wo sk se) (p1 : 1 ≤ p) (p2 : p ≤ 9) (w1 : 1 ≤ w) (w2 : w ≤ 9) (m1 : 0 ≤ m) (m2 : m ≤ 999) (x1 : 0 ≤ x) (x2 : x < 8) (y1 : 0 ≤ y) (y2 : y < 8) : ∃ g', mM_soonestOf NF v (I x) (I y) (I m) (I p) (I w) = some (I (soo (arr p (Pw rw) (Lw wo sk se fr rw p w) n.toNat x m) y), sfM v 10 g') := by
  obtain ⟨g', h1, h2⟩ := m_layThere hM p1 p2 w1 w2 m1 m2 x1 x2
  refine ⟨g', ?_⟩
  have hy := h1 y y1 y2
  have hk := arr_ok (P := Pw rw) (L := Lw wo sk se fr rw p w) (n := n.toNat) (f := x) m1 p1 p2 y y1 y2
  unfold mM_soonestOf mM_soonestOf_31 soo
  rw [h2, Option.bind_some]
  have e10 : (sfM v 10 g').2.1 10 = g' := sfM_g _ _ _
  simp (disch := omega) only [rd_I, e10, hy, I_lit, I_eq, I_neg]
  by_cases q : arr p (Pw rw) (Lw wo sk se fr rw p w) n.toNat x m y = 100000
  · rw [if_neg (not_not_intro q), if_pos q]
  · rw [if_pos q, if_neg q]
