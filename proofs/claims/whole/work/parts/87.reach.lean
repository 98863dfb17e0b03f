/-- one sweep over the rows, as everReached does -/
def swp (u : USt) : Nat → Int → Int32 → Int32
  | 0, _, x => x
  | d + 1, j, x => swp u d (j + 1) (if u.2 15 j.toNat &&& x = 0 then x else x ||| u.2 15 j.toNat)
def swps (u : USt) (n : Nat) : Nat → Int32 → Int32
  | 0, x => x
  | d + 1, x => swps u n d (swp u n 0 x)
def P8 (x : Int32) : Prop := ∀ i, 8 ≤ i → tb x i = false
def Clo (u : USt) (n : Int) (x : Int32) : Prop := ∀ k, 0 ≤ k → k < n → u.2 15 k.toNat &&& x = 0 ∨ x ||| u.2 15 k.toNat = x
theorem swp_ge (u : USt) {i : Nat} : ∀ (d : Nat) (j : Int) (x : Int32), tb x i = true → tb (swp u d j x) i = true
  | 0, _, _, h => h
  | d + 1, j, x, h => swp_ge u d (j + 1) _ (by
      split
      · exact h
      · rw [tb_or, h]
        rfl)
theorem swp_p8 {u : USt} {n : Int} (hu : ∀ k, 0 ≤ k → k < n → P8 (u.2 15 k.toNat)) : ∀ (d : Nat) (j : Int) (x : Int32), 0 ≤ j → j + d ≤ n → P8 x → P8 (swp u d j x)
  | 0, _, _, _, _, h => h
  | d + 1, j, x, h1, h2, h => swp_p8 hu d (j + 1) _ (by omega) (by omega) (by
      split
      · exact h
      · intro i hi
        rw [tb_or, h i hi, hu j h1 (by omega) i hi]
        rfl)
theorem swp_fix (u : USt) : ∀ (d : Nat) (j : Int) (x : Int32), swp u d j x = x → ∀ k, j ≤ k → k < j + d → u.2 15 k.toNat &&& x = 0 ∨ x ||| u.2 15 k.toNat = x
  | 0, _, _, _, k, h1, h2 => by omega
  | d + 1, j, x, h, k, h1, h2 => by
      have e : swp u (d + 1) j x = swp u d (j + 1) (if u.2 15 j.toNat &&& x = 0 then x else x ||| u.2 15 j.toNat) := rfl
      rw [e] at h
      have hy : (if u.2 15 j.toNat &&& x = 0 then x else x ||| u.2 15 j.toNat) = x := by
        apply tb_ext
        intro i _
        split
        · rfl
        · rename_i q
          rw [if_neg q] at h
          have h3 := swp_ge u (i := i) d (j + 1) (x ||| u.2 15 j.toNat)
          rw [h] at h3
          cases hc : tb (x ||| u.2 15 j.toNat) i with
          | true => exact (h3 hc).symm
          | false =>
            rw [tb_or, Bool.or_eq_false_iff] at hc
            exact hc.1.symm
      by_cases q : k = j
      · subst q
        by_cases q2 : u.2 15 k.toNat &&& x = 0
        · exact .inl q2
        · rw [if_neg q2] at hy
          exact .inr hy
      · rw [hy] at h
        exact swp_fix u d (j + 1) x h k (by omega) (by omega)
theorem swp_clo {u : USt} {n : Int} {x : Int32} (h : Clo u n x) : ∀ (d : Nat) (j : Int), 0 ≤ j → j + d ≤ n → swp u d j x = x
  | 0, _, _, _ => rfl
  | d + 1, j, h1, h2 => by
      have e : swp u (d + 1) j x = swp u d (j + 1) (if u.2 15 j.toNat &&& x = 0 then x else x ||| u.2 15 j.toNat) := rfl
      rw [e]
      have hy : (if u.2 15 j.toNat &&& x = 0 then x else x ||| u.2 15 j.toNat) = x := by
        split
        · rfl
        · rename_i q
          exact (h j h1 (by omega)).resolve_left q
      rw [hy]
      exact swp_clo h d (j + 1) (by omega) (by omega)
def c1 (x : Int32) (i : Nat) : Nat := if tb x i = true then 1 else 0
def cn (x : Int32) : Nat := c1 x 0 + c1 x 1 + c1 x 2 + c1 x 3 + c1 x 4 + c1 x 5 + c1 x 6 + c1 x 7
theorem c1_le (x : Int32) (i : Nat) : c1 x i ≤ 1 := by
  unfold c1
  split <;> omega
theorem cn_le (x : Int32) : cn x ≤ 8 := by
  unfold cn
  have := c1_le x 0
  have := c1_le x 1
  have := c1_le x 2
  have := c1_le x 3
  have := c1_le x 4
  have := c1_le x 5
  have := c1_le x 6
  have := c1_le x 7
  omega
theorem c1_mono {x y : Int32} (h : ∀ i, tb x i = true → tb y i = true) (i : Nat) : c1 x i ≤ c1 y i := by
  unfold c1
  have := h i
  split <;> split <;> simp_all
theorem cn_lt {x y : Int32} (h : ∀ i, tb x i = true → tb y i = true) (hx : P8 x) (hy : P8 y) (hne : y ≠ x) : cn x < cn y := by
  have hex : ∃ i, i < 8 ∧ tb x i = false ∧ tb y i = true := by
    apply Classical.byContradiction
    intro hc
    apply hne
    apply tb_ext
    intro i _
    by_cases q : i < 8
    · cases a : tb y i with
      | true =>
        cases b : tb x i with
        | true => rfl
        | false => exact absurd ⟨i, q, b, a⟩ hc
      | false =>
        cases b : tb x i with
        | true => exact absurd (h i b) (by rw [a]; decide)
        | false => rfl
    · rw [hx i (by omega), hy i (by omega)]
  obtain ⟨i, hi, hxi, hyi⟩ := hex
  have hs : c1 x i < c1 y i := by
    unfold c1
    rw [hxi, hyi]
    decide
  have h0 := c1_mono h 0
  have h1 := c1_mono h 1
  have h2 := c1_mono h 2
  have h3 := c1_mono h 3
  have h4 := c1_mono h 4
  have h5 := c1_mono h 5
  have h6 := c1_mono h 6
  have h7 := c1_mono h 7
  unfold cn
  rcases (show i = 0 ∨ i = 1 ∨ i = 2 ∨ i = 3 ∨ i = 4 ∨ i = 5 ∨ i = 6 ∨ i = 7 by omega) with rfl | rfl | rfl | rfl | rfl | rfl | rfl | rfl <;> omega
theorem swps_c {u : USt} {n : Int} (n1 : 0 ≤ n) (hu : ∀ k, 0 ≤ k → k < n → P8 (u.2 15 k.toNat)) : ∀ (d c : Nat) (x : Int32), P8 x → (Clo u n x ∨ c ≤ cn x) → (Clo u n (swps u n.toNat d x) ∨ c + d ≤ cn (swps u n.toNat d x)) ∧ P8 (swps u n.toNat d x) ∧ ∀ i, tb x i = true → tb (swps u n.toNat d x) i = true
  | 0, c, x, hx, h => ⟨h, hx, fun _ q => q⟩
  | d + 1, c, x, hx, h => by
      have e : swps u n.toNat (d + 1) x = swps u n.toNat d (swp u n.toNat 0 x) := rfl
      rw [e]
      have hp := swp_p8 hu n.toNat 0 x (by omega) (by omega) hx
      have hge := fun i => swp_ge u (i := i) n.toNat 0 x
      have hst : Clo u n (swp u n.toNat 0 x) ∨ c + 1 ≤ cn (swp u n.toNat 0 x) := by
        by_cases q : swp u n.toNat 0 x = x
        · left
          rw [q]
          intro k k1 k2
          exact swp_fix u n.toNat 0 x q k k1 (by omega)
        · rcases h with h | h
          · exact absurd (swp_clo h n.toNat 0 (by omega) (by omega)) q
          · right
            have := cn_lt hge hx hp q
            omega
      obtain ⟨r1, r2, r3⟩ := swps_c n1 hu d (c + 1) _ hp hst
      refine ⟨?_, r2, fun i q => r3 i (hge i q)⟩
      rcases r1 with r1 | r1
      · exact .inl r1
      · exact .inr (by omega)
theorem sh_p8 {z : Int} (h1 : 0 ≤ z) (h2 : z < 8) : P8 (sh z) := fun i hi => by
  rw [tb_sh h1 h2]
  exact decide_eq_false (by omega)
theorem sh_cn {z : Int} (h1 : 0 ≤ z) (h2 : z < 8) : 1 ≤ cn (sh z) := by
  have h : c1 (sh z) z.toNat = 1 := by
    unfold c1
    rw [tb_sh h1 h2]
    simp
  unfold cn
  rcases (show z = 0 ∨ z = 1 ∨ z = 2 ∨ z = 3 ∨ z = 4 ∨ z = 5 ∨ z = 6 ∨ z = 7 by omega) with rfl | rfl | rfl | rfl | rfl | rfl | rfl | rfl
  · have h' : c1 (sh 0) 0 = 1 := h
    omega
  · have h' : c1 (sh 1) 1 = 1 := h
    omega
  · have h' : c1 (sh 2) 2 = 1 := h
    omega
  · have h' : c1 (sh 3) 3 = 1 := h
    omega
  · have h' : c1 (sh 4) 4 = 1 := h
    omega
  · have h' : c1 (sh 5) 5 = 1 := h
    omega
  · have h' : c1 (sh 6) 6 = 1 := h
    omega
  · have h' : c1 (sh 7) 7 = 1 := h
    omega
theorem ever_clo {u : USt} {n z : Int} (n1 : 0 ≤ n) (hu : ∀ k, 0 ≤ k → k < n → P8 (u.2 15 k.toNat)) (h1 : 0 ≤ z) (h2 : z < 8) : Clo u n (swps u n.toNat 8 (sh z)) ∧ tb (swps u n.toNat 8 (sh z)) z.toNat = true := by
  obtain ⟨r1, -, r3⟩ := swps_c n1 hu 8 1 (sh z) (sh_p8 h1 h2) (.inr (sh_cn h1 h2))
  refine ⟨r1.resolve_right (fun h => ?_), r3 _ (by rw [tb_sh h1 h2]; simp)⟩
  have := cn_le (swps u n.toNat 8 (sh z))
  omega
theorem x_ever15 (N : Nat) {u : USt} {n : Int} (u18 : u.1 18 = I n) (n2 : n ≤ 10) (k6 : Int32 → Int32 → Option Int32) {s : Int} (s1 : 0 ≤ s) (s2 : s ≤ 100) : ∀ (d f : Nat) (j : Int) (x : Int32), d < f → (d : Int) = n - j → 0 ≤ j → mX9_everReached_h15 N u k6 f x (I s) (I j) = k6 (swp u d j x) (I (s + 1)) := by
  intro d
  induction d with
  | zero =>
    intro f j x hf hd hj
    obtain ⟨f, rfl⟩ : ∃ g, f = g + 1 := ⟨f - 1, by omega⟩
    show mX9_everReached_15 N u _ _ _ _ _ = _
    unfold mX9_everReached_15
    rw [u18, if_pos (by rw [I_le (by omega) (by omega) (by omega) (by omega)]; omega), show I s + 1 = I (s + 1) from I_add s 1]
    rfl
  | succ d ih =>
    intro f j x hf hd hj
    obtain ⟨f, rfl⟩ : ∃ g, f = g + 1 := ⟨f - 1, by omega⟩
    show mX9_everReached_15 N u _ _ _ _ _ = _
    unfold mX9_everReached_15 mX9_everReached_46
    simp only [nm]
    rw [u18, if_neg (by rw [I_le (by omega) (by omega) (by omega) (by omega)]; omega), rdX_15 hj (by omega), rdX_15 hj (by omega)]
    have e : swp u (d + 1) j x = swp u d (j + 1) (if u.2 15 j.toNat &&& x = 0 then x else x ||| u.2 15 j.toNat) := rfl
    rw [e, show I j + 1 = I (j + 1) from I_add j 1]
    by_cases q : u.2 15 j.toNat &&& x = 0
    · rw [if_pos q, if_pos q]
      exact ih f (j + 1) x (by omega) (by omega) (by omega)
    · rw [if_neg q, if_neg q]
      exact ih f (j + 1) _ (by omega) (by omega) (by omega)
theorem x_ever6 (N : Nat) {u : USt} {n : Int} (hN : 10 < N) (u18 : u.1 18 = I n) (n1 : 0 ≤ n) (n2 : n ≤ 10) : ∀ (d f : Nat) (s : Int) (x : Int32), d < f → (d : Int) = 8 - s → 0 ≤ s → mX9_everReached_h6 N u f x (I s) = some (swps u n.toNat d x) := by
  intro d
  induction d with
  | zero =>
    intro f s x hf hd hj
    obtain ⟨f, rfl⟩ : ∃ g, f = g + 1 := ⟨f - 1, by omega⟩
    show mX9_everReached_6 N u _ _ _ = _
    unfold mX9_everReached_6
    rw [show (8 : Int32) = I 8 from rfl, if_pos (by rw [I_le (by omega) (by omega) (by omega) (by omega)]; omega)]
    rfl
  | succ d ih =>
    intro f s x hf hd hj
    obtain ⟨f, rfl⟩ : ∃ g, f = g + 1 := ⟨f - 1, by omega⟩
    show mX9_everReached_6 N u _ _ _ = _
    unfold mX9_everReached_6
    rw [show (8 : Int32) = I 8 from rfl, if_neg (by rw [I_le (by omega) (by omega) (by omega) (by omega)]; omega), show (0 : Int32) = I 0 from rfl, x_ever15 N u18 n2 _ hj (by omega) n.toNat N 0 x (by omega) (by omega) (by omega)]
    exact ih f (s + 1) _ (by omega) (by omega) (by omega)
theorem x_ever (N : Nat) {u : USt} {n z : Int} (hN : 10 < N) (u18 : u.1 18 = I n) (n1 : 0 ≤ n) (n2 : n ≤ 10) : mX9_everReached N u (I z) = some (swps u n.toNat 8 (sh z)) := by
  unfold mX9_everReached
  simp only [nm]
  exact x_ever6 N hN u18 n1 n2 8 N 0 (sh z) (by omega) (by omega) (by omega)
/-- a minute of the table's window, or never -/
def cv (s x : Int) : Int := if x = 100000 then 2147483647 else x - s
theorem wy1_st {p lim one two t : Int} {A : Int → Int} {i : Int} (h : A i ≠ 100000) : wy1 p lim one two t A i = A i := by
  unfold wy1
  split
  · rfl
  · split
    · rename_i q
      exact fup_ne (fun e => h (by rw [e]; exact q.2))
    · split
      · rename_i q
        exact fup_ne (fun e => h (by rw [e]; exact q.2))
      · rfl
theorem wyR_st {p lim t : Int} {P : Int → Int} {L : Int → Int → Int} {i : Int} : ∀ (d : Nat) (j : Int) (A : Int → Int), A i ≠ 100000 → wyR p lim P L t d j A i = A i
  | 0, _, _, _ => rfl
  | d + 1, j, A, h => by
      have e : wyR p lim P L t (d + 1) j A = wyR p lim P L t d (j + 1) (wy1 p lim (P j) (L j t) t A) := rfl
      have e1 := wy1_st (p := p) (lim := lim) (one := P j) (two := L j t) (t := t) h
      rw [e, wyR_st d (j + 1) _ (by rw [e1]; exact h), e1]
theorem wyT_st {p lim : Int} {P : Int → Int} {L : Int → Int → Int} {n : Nat} {i : Int} : ∀ (d : Nat) (t : Int) (A : Int → Int), A i ≠ 100000 → wyT p lim P L n d t A i = A i
  | 0, _, _, _ => rfl
  | d + 1, t, A, h => by
      have e : wyT p lim P L n (d + 1) t A = wyT p lim P L n d (t + 1) (wyR p lim P L t n 0 A) := rfl
      have e1 := wyR_st (p := p) (lim := lim) (P := P) (L := L) (t := t) n 0 A h
      rw [e, wyT_st d (t + 1) _ (by rw [e1]; exact h), e1]
theorem wyR_idle {p lim t : Int} {P : Int → Int} {L : Int → Int → Int} (h : lim < t + p) : ∀ (d : Nat) (j : Int) (A : Int → Int), wyR p lim P L t d j A = A
  | 0, _, _ => rfl
  | d + 1, j, A => by
      have e : wyR p lim P L t (d + 1) j A = wyR p lim P L t d (j + 1) (wy1 p lim (P j) (L j t) t A) := rfl
      have e1 : wy1 p lim (P j) (L j t) t A = A := if_pos (.inr h)
      rw [e, e1]
      exact wyR_idle h d (j + 1) A
theorem wyT_idle {p lim : Int} {P : Int → Int} {L : Int → Int → Int} {n : Nat} : ∀ (d : Nat) (t : Int) (A : Int → Int), lim < t + p → wyT p lim P L n d t A = A
  | 0, _, _, _ => rfl
  | d + 1, t, A, h => by
      have e : wyT p lim P L n (d + 1) t A = wyT p lim P L n d (t + 1) (wyR p lim P L t n 0 A) := rfl
      rw [e, wyR_idle h]
      exact wyT_idle d (t + 1) A (by omega)
/-- islets beyond a shut set stay out of reach -/
def Shut (n p lim s : Int) (P : Int → Int) (L : Int → Int → Int) (E : Int → Prop) : Prop := ∀ k t, 0 ≤ k → k < n → s ≤ t → t + p ≤ lim → L k t ≠ -1 → (E (P k) ↔ E (L k t))
theorem wy1_sh {p lim one two t : Int} {A : Int → Int} {E : Int → Prop} (hE : two ≠ -1 → t + p ≤ lim → (E one ↔ E two)) (ht : t < 100000) (h : ∀ i, A i ≠ 100000 → E i) : ∀ i, wy1 p lim one two t A i ≠ 100000 → E i := by
  intro i
  unfold wy1
  split
  · exact h i
  · rename_i q
    split
    · rename_i q2
      by_cases e : i = two
      · subst e
        exact fun _ => (hE (by omega) (by omega)).1 (h one (by omega))
      · rw [fup_ne e]
        exact h i
    · split
      · rename_i q2
        by_cases e : i = one
        · subst e
          exact fun _ => (hE (by omega) (by omega)).2 (h two (by omega))
        · rw [fup_ne e]
          exact h i
      · exact h i
theorem wyR_sh {n p lim s t : Int} {P : Int → Int} {L : Int → Int → Int} {E : Int → Prop} (hE : Shut n p lim s P L E) (hs : s ≤ t) (ht : t < 100000) : ∀ (d : Nat) (j : Int) (A : Int → Int), 0 ≤ j → j + d ≤ n → (∀ i, A i ≠ 100000 → E i) → ∀ i, wyR p lim P L t d j A i ≠ 100000 → E i
  | 0, _, _, _, _, h => h
  | d + 1, j, A, j1, j2, h => wyR_sh hE hs ht d (j + 1) _ (by omega) (by omega) (wy1_sh (fun q1 q2 => hE j t j1 (by omega) hs q2 q1) ht h)
theorem wyT_sh {n p lim s : Int} {P : Int → Int} {L : Int → Int → Int} {E : Int → Prop} (hE : Shut n p lim s P L E) (n1 : 0 ≤ n) : ∀ (d : Nat) (t : Int) (A : Int → Int), s ≤ t → t + d < 100000 → (∀ i, A i ≠ 100000 → E i) → ∀ i, wyT p lim P L n.toNat d t A i ≠ 100000 → E i
  | 0, _, _, _, _, h => h
  | d + 1, t, A, h1, h2, h => wyT_sh hE n1 d (t + 1) _ (by omega) (by omega) (wyR_sh hE h1 (by omega) n.toNat 0 A (by omega) (by omega) h)
theorem cv_le {s x t : Int} (hx : x = 100000 ∨ (0 ≤ x ∧ x ≤ 3000)) (s1 : 0 ≤ s) (s2 : s ≤ 1000) (t2 : t ≤ 2000) : (cv s x ≤ t) = (x ≤ s + t) := by
  unfold cv
  simp only [eq_iff_iff]
  split <;> omega
theorem cv_nv {s x : Int} (hx : x = 100000 ∨ (0 ≤ x ∧ x ≤ 3000)) (s1 : 0 ≤ s) (s2 : s ≤ 1000) : (cv s x = 2147483647) = (x = 100000) := by
  unfold cv
  simp only [eq_iff_iff]
  split <;> omega
theorem cv_b {s x : Int} (hx : x = 100000 ∨ (0 ≤ x ∧ x ≤ 3000)) (s1 : 0 ≤ s) (s2 : s ≤ 1000) : -1000 ≤ cv s x ∧ cv s x ≤ 2147483647 := by
  unfold cv
  split <;> omega
theorem rdX_8 {α : Type} {u : USt} {a : Nat} {z : Int} {f : Int32 → Option α} (ha : a = 24 ∨ a = 25) (h1 : 0 ≤ z) (h2 : z < 8) : rdX u a (I z) f = f (u.2 a z.toNat) := by
  rcases ha with rfl | rfl
  · exact rdX_24 h1 h2
  · exact rdX_25 h1 h2
theorem wrX_8 {α : Type} {a : Nat} {z : Int} {f : Nat → Option α} (ha : a = 24 ∨ a = 25) (h1 : 0 ≤ z) (h2 : z < 8) : wrX a (I z) f = f z.toNat := by
  rcases ha with rfl | rfl
  · exact wrX_24 h1 h2
  · exact wrX_25 h1 h2
def Crow (g : Nat → Int32) (s : Int) (A : Int → Int) : Prop := Arow g (fun i => cv s (A i))
theorem Crow.up {g : Nat → Int32} {s : Int} {A : Int → Int} (h : Crow g s A) {k : Int} (h1 : 0 ≤ k) {x y : Int} (e : cv s y = x) : Crow (upd g k.toNat (I x)) s (fup A k y) := by
  intro i i1 i2
  by_cases q : i = k
  · subst q
    rw [ud_eq]
    show I x = I (cv s (fup A i y i))
    rw [fup_eq, e]
  · rw [ud_ne (by omega)]
    show _ = I (cv s (fup A k y i))
    rw [fup_ne q]
    exact h i i1 i2
/-- who is still missing -/
def Mis (x : Int32) (W : Nat → Bool) (A : Int → Int) : Prop := ∀ i, i < 32 → tb x i = (W i && decide (A i = 100000))
theorem Mis.up {x : Int32} {W : Nat → Bool} {A : Int → Int} (h : Mis x W A) {k y : Int} (h1 : 0 ≤ k) (h2 : k < 8) (hy : y ≠ 100000) : Mis (x &&& nt (sh k)) W (fup A k y) := by
  intro i hi
  rw [tb_and, tb_nt _ hi, tb_sh h1 h2, h i hi]
  by_cases q : (i : Int) = k
  · subst q
    rw [fup_eq, decide_eq_false hy]
    simp
  · have q2 : ¬ i = k.toNat := by omega
    rw [fup_ne q, decide_eq_false q2]
    simp
theorem x_rc76 (N : Nat) {u : USt} {s sp p n lim t l : Int} {P : Int → Int} {L : Int → Int → Int} {a : Nat} {W : Nat → Bool} (ha : a = 24 ∨ a = 25) (hT : Tab u s sp p n n P L) (hnet : Net n P L) (k61 : USt → Nat → Int32 → Int32 → Int32 → Option USt) (n2 : n ≤ 10) (s1 : 0 ≤ s) (s2 : s ≤ 999) (sp1 : 0 ≤ sp) (sp2 : sp ≤ 999) (p1 : 1 ≤ p) (p2 : p ≤ 9) (t1 : 0 ≤ t) (t2 : t + p ≤ sp) (ht : s + t + p ≤ lim) : ∀ (d f : Nat) (j : Int) (g : Nat → Int32) (x : Int32) (A : Int → Int), d < f → (d : Int) = n - j → 0 ≤ j → Crow g s A → Aok A (s + t + p) → Mis x W A → ∃ (g' : Nat → Int32) (x' : Int32), Crow g' s (wyR p lim P L (s + t) d j A) ∧ Mis x' W (wyR p lim P L (s + t) d j A) ∧ mX9_reach_h76 N k61 f (sfX u a g) a x (I l) (I t) (I j) = k61 (sfX u a g') a x' (I l) (I (t + 1)) := by
  intro d
  induction d with
  | zero =>
    intro f j g x A hf hd hj hg hA hm
    obtain ⟨f, rfl⟩ : ∃ g, f = g + 1 := ⟨f - 1, by omega⟩
    refine ⟨g, x, hg, hm, ?_⟩
    show mX9_reach_76 N _ _ _ _ _ _ _ _ = _
    unfold mX9_reach_76
    simp only [nm]
    have e18 : (sfX u a g).1 18 = I n := hT.2.2.2.1
    rw [e18, if_pos (by rw [I_le (by omega) (by omega) (by omega) (by omega)]; omega), show I t + 1 = I (t + 1) from I_add t 1]
  | succ d ih =>
    intro f j g x A hf hd hj hg hA hm
    obtain ⟨f, rfl⟩ : ∃ g, f = g + 1 := ⟨f - 1, by omega⟩
    have hT' : Tab (sfX u a g) s sp p n n P L := hT.keep n2 rfl (fun c hc => vu_ne (by omega))
    have e18 : (sfX u a g).1 18 = I n := hT.2.2.2.1
    have e17 : (sfX u a g).1 17 = I p := hT.2.2.1
    have ea : (sfX u a g).2 a = g := vu_eq _ _ _
    have hnj := hnet j hj (by omega)
    have hL := hnj.2 (s + t) (by omega)
    have hrow := ((hT'.2.2.2.2 j hj (by omega)).1 t t1 (by omega)).2
    have e : wyR p lim P L (s + t) (d + 1) j A = wyR p lim P L (s + t) d (j + 1) (wy1 p lim (P j) (L j (s + t)) (s + t) A) := rfl
    rw [e]
    show ∃ (g' : Nat → Int32) (x' : Int32), _ ∧ _ ∧ mX9_reach_76 N _ _ _ _ _ _ _ _ = _
    unfold mX9_reach_76 mX9_reach_159 mX9_reach_202
    simp only [nm]
    rw [x_landing N hT' hj (by omega) n2 (by omega) (by omega) sp1 sp2 p1 p2, if_pos (show 0 ≤ t ∧ t + p ≤ sp from ⟨t1, t2⟩), Option.bind_some, e18, e17]
    simp (disch := omega) only [I_lit, I_le, I_neg, I_eq, I_add, rdX_14, sh_eq, nt_eq]
    rw [if_neg (by omega)]
    by_cases q : L j (s + t) = -1
    · have ew : wy1 p lim (P j) (L j (s + t)) (s + t) A = A := if_pos (.inl q)
      rw [if_neg (not_not_intro q), ew]
      exact ih f (j + 1) g x A (by omega) (by omega) (by omega) hg hA hm
    · obtain ⟨r14, -, -⟩ := hrow q
      have r14 : va_up u.2 a g 14 j.toNat = I (P j) := r14
      rw [if_pos q, r14]
      generalize hone : P j = one at *
      generalize htwo : L j (s + t) = two at *
      have hA1 := hA one hnj.1.1 (by omega)
      have hA2 := hA two (by omega) (by omega)
      have g1 : g one.toNat = I (cv s (A one)) := hg one (by omega) (by omega)
      have g2 : g two.toNat = I (cv s (A two)) := hg two (by omega) (by omega)
      have b1 := cv_b (s := s) (x := A one) (by omega) s1 (by omega)
      have b2 := cv_b (s := s) (x := A two) (by omega) s1 (by omega)
      simp (disch := omega) only [rdX_8 ha, wrX_8 ha, ea, vu_eq, g1, g2, I_lt, I_eq, saX_sfX, sh_eq]
      have l1 := cv_le (s := s) (x := A one) (t := t) (by omega) s1 (by omega) (by omega)
      have l2 := cv_le (s := s) (x := A two) (t := t) (by omega) s1 (by omega) (by omega)
      have v1 := cv_nv (s := s) (x := A one) (by omega) s1 (by omega)
      have v2 := cv_nv (s := s) (x := A two) (by omega) s1 (by omega)
      rw [eq_iff_iff] at l1 l2 v1 v2
      have ecv : cv s (s + t + p) = t + p := by
        unfold cv
        rw [if_neg (by omega)]
        omega
      by_cases c1 : A one ≤ s + t ∧ A two = 100000
      · have ew : wy1 p lim one two (s + t) A = fup A two (s + t + p) := by
          unfold wy1
          rw [if_neg (by omega), if_pos c1]
        rw [if_neg (by omega), if_neg (not_not_intro (v2.2 c1.2)), ew]
        exact ih f (j + 1) _ _ _ (by omega) (by omega) (by omega) (hg.up (by omega) ecv) (hA.up (by omega) (by omega)) (hm.up (by omega) (by omega) (by omega))
      · by_cases c2 : A two ≤ s + t ∧ A one = 100000
        · have ew : wy1 p lim one two (s + t) A = fup A one (s + t + p) := by
            unfold wy1
            rw [if_neg (by omega), if_neg c1, if_pos c2]
          rw [if_pos (by omega), if_neg (by omega), if_neg (not_not_intro (v1.2 c2.2)), ew]
          exact ih f (j + 1) _ _ _ (by omega) (by omega) (by omega) (hg.up (by omega) ecv) (hA.up (by omega) (by omega)) (hm.up (by omega) (by omega) (by omega))
        · have ew : wy1 p lim one two (s + t) A = A := by
            unfold wy1
            rw [if_neg (by omega), if_neg c1, if_neg c2]
          rw [ew]
          obtain ⟨g', x', i1, i2, i3⟩ := ih f (j + 1) g x A (by omega) (by omega) (by omega) hg hA hm
          refine ⟨g', x', i1, i2, ?_⟩
          rw [← i3]
          (repeat' split) <;> first | rfl | (exfalso; omega)
theorem x_rc61 {u : USt} {s sp p n b0 : Int} {P : Int → Int} {L : Int → Int → Int} {a : Nat} {W : Nat → Bool} (hW : ∀ i, W i = true → i < 8) (ha : a = 24 ∨ a = 25) (hT : Tab u s sp p n n P L) (hnet : Net n P L) (n1 : 0 ≤ n) (n2 : n ≤ 10) (s1 : 0 ≤ s) (s2 : s ≤ 999) (sp2 : sp ≤ 999) (p1 : 1 ≤ p) (p2 : p ≤ 9) (b1 : 0 ≤ b0) (b2 : b0 + 400 ≤ sp) : ∀ (d f : Nat) (t : Int) (g : Nat → Int32) (x : Int32) (A : Int → Int), d < f → (d : Int) = b0 + 400 - t → b0 ≤ t → Crow g s A → Aok A (s + t + p) → Mis x W A → ∃ (g' : Nat → Int32) (A' : Int → Int), Crow g' s A' ∧ (∀ i, A i ≠ 100000 → A' i ≠ 100000) ∧ (A' = wyT p (s + b0 + 400) P L n.toNat d (s + t) A ∨ ((∀ i : Nat, W i = true → A' i ≠ 100000) ∧ ∃ d' t', (t' : Int) + (d' : Nat) = s + b0 + 400 ∧ s + b0 ≤ t' ∧ wyT p (s + b0 + 400) P L n.toNat d (s + t) A = wyT p (s + b0 + 400) P L n.toNat d' t' A')) ∧ mX9_reach_h61 NF f (sfX u a g) a x (I (b0 + 400 - p)) (I t) = some (sfX u a g') := by
  have hb := NF_big
  intro d
  induction d with
  | zero =>
    intro f t g x A hf hd hj hg hA hm
    obtain ⟨f, rfl⟩ : ∃ g, f = g + 1 := ⟨f - 1, by omega⟩
    refine ⟨g, A, hg, fun _ h => h, .inl rfl, ?_⟩
    show mX9_reach_61 NF _ _ _ _ _ _ = _
    unfold mX9_reach_61 mX9_reach_214
    rw [if_pos (by rw [I_lt (by omega) (by omega) (by omega) (by omega)]; omega)]
  | succ d ih =>
    intro f t g x A hf hd hj hg hA hm
    obtain ⟨f, rfl⟩ : ∃ g, f = g + 1 := ⟨f - 1, by omega⟩
    show ∃ (g' : Nat → Int32) (A' : Int → Int), _ ∧ _ ∧ _ ∧ mX9_reach_61 NF _ _ _ _ _ _ = _
    unfold mX9_reach_61 mX9_reach_214
    by_cases q : b0 + 400 - p < t
    · refine ⟨g, A, hg, fun _ h => h, .inl ?_, ?_⟩
      · exact (wyT_idle (d + 1) (s + t) A (by omega)).symm
      · rw [if_pos (by rw [I_lt (by omega) (by omega) (by omega) (by omega)]; omega)]
    · rw [if_neg (by rw [I_lt (by omega) (by omega) (by omega) (by omega)]; omega)]
      by_cases q2 : x = 0
      · refine ⟨g, A, hg, fun _ h => h, .inr ⟨fun i hi => ?_, d + 1, s + t, by omega, by omega, rfl⟩, ?_⟩
        · have hi8 := hW i hi
          have := hm i (by omega)
          rw [q2, tb_zero, hi, Bool.true_and] at this
          exact of_decide_eq_false this.symm
        · rw [if_pos q2]
      · rw [if_neg q2]
        obtain ⟨g', x', i1, i2, i3⟩ := x_rc76 NF (l := b0 + 400 - p) (lim := s + b0 + 400) ha hT hnet (mX9_reach_h61 NF f) n2 s1 s2 (by omega) sp2 p1 p2 (t := t) (by omega) (by omega) (by omega) n.toNat NF 0 g x A (by omega) (by omega) (by omega) hg hA hm
        rw [show (0 : Int32) = I 0 from rfl, i3]
        obtain ⟨g'', A', j1, j0, j2, j3⟩ := ih f (t + 1) g' x' _ (by omega) (by omega) (by omega) i1 ((wyR_ok (by omega) (by omega) _ _ _ hA).mono (by omega)) i2
        have e : wyT p (s + b0 + 400) P L n.toNat (d + 1) (s + t) A = wyT p (s + b0 + 400) P L n.toNat d (s + (t + 1)) (wyR p (s + b0 + 400) P L (s + t) n.toNat 0 A) := by
          rw [← Int.add_assoc]
          rfl
        rw [e]
        exact ⟨g'', A', j1, fun i hi => j0 i (by rw [wyR_st n.toNat 0 A hi]; exact hi), j2, j3⟩
/-- the class's reach -/
theorem x_reach {u : USt} {s sp p n b0 z : Int} {P : Int → Int} {L : Int → Int → Int} {a : Nat} {wd : Int32} (ha : a = 24 ∨ a = 25) (hT : Tab u s sp p n n P L) (hnet : Net n P L) (n1 : 0 ≤ n) (n2 : n ≤ 10) (s1 : 0 ≤ s) (s2 : s ≤ 999) (sp2 : sp ≤ 999) (p1 : 1 ≤ p) (p2 : p ≤ 9) (b1 : 0 ≤ b0) (b2 : b0 + 400 ≤ sp) (z1 : 0 ≤ z) (z2 : z < 8) (hwd : P8 wd) : ∃ g' : Nat → Int32, (∀ i : Int, 0 ≤ i → i < 8 → tb wd i.toNat = true → g' i.toNat = I (cv s (arr p P L n.toNat z (s + b0) i))) ∧ mX9_reach NF u (I z) (I b0) wd a = some (sfX u a g') := by
  have hb := NF_big
  have hlen : okA a = true ∧ lenX a = 8 := by
    rcases ha with rfl | rfl <;> exact ⟨rfl, rfl⟩
  obtain ⟨g0, f1, f2⟩ := x_fill NF u hlen.1 hlen.2 (by omega) (by omega) 2147483647
  have hT0 : ∀ g, Tab (sfX u a g) s sp p n n P L := fun g => hT.keep n2 rfl (fun c hc => vu_ne (by omega))
  have hu : ∀ k, 0 ≤ k → k < n → P8 (u.2 15 k.toNat) := fun k k1 k2 => (hT.2.2.2.2 k k1 k2).2
  obtain ⟨hclo, hin⟩ := ever_clo n1 hu z1 z2
  have hev : ∀ g, mX9_everReached NF (sfX u a g) (I z) = some (swps u n.toNat 8 (sh z)) := by
    intro g
    have e1 := x_ever NF (u := sfX u a g) (n := n) (z := z) (by omega) hT.2.2.2.1 n1 n2
    have e2 : ∀ (d : Nat) (j : Int) (x : Int32), swp (sfX u a g) d j x = swp u d j x := by
      intro d
      induction d with
      | zero => exact fun _ _ => rfl
      | succ d ih =>
        intro j x
        have e15 : (sfX u a g).2 15 = u.2 15 := vu_ne (by omega)
        show swp (sfX u a g) d (j + 1) (if (sfX u a g).2 15 j.toNat &&& x = 0 then x else x ||| (sfX u a g).2 15 j.toNat) = _
        rw [e15, ih]
        rfl
    have e3 : ∀ (d : Nat) (x : Int32), swps (sfX u a g) n.toNat d x = swps u n.toNat d x := by
      intro d
      induction d with
      | zero => exact fun _ => rfl
      | succ d ih =>
        intro x
        show swps (sfX u a g) n.toNat d (swp (sfX u a g) n.toNat 0 x) = _
        rw [e2, ih]
        rfl
    rw [e1, e3]
  generalize hE : swps u n.toNat 8 (sh z) = E at *
  have hA0 : Crow (upd g0 z.toNat (I b0)) s (wy0 z (s + b0)) := by
    intro i i1 i2
    by_cases q : i = z
    · subst q
      rw [ud_eq]
      show I b0 = I (cv s (if i = i then s + b0 else 100000))
      rw [if_pos rfl]
      unfold cv
      rw [if_neg (by omega)]
      congr 1
      omega
    · rw [ud_ne (by omega), f1 _ (by omega)]
      show (2147483647 : Int32) = I (cv s (if i = z then s + b0 else 100000))
      rw [if_neg q]
      rfl
  have hm0 : Mis ((wd &&& E) &&& nt (sh z)) (fun i => (tb wd i && tb E i) && !decide (i = z.toNat)) (wy0 z (s + b0)) := by
    intro i hi
    rw [tb_and, tb_and, tb_nt _ hi, tb_sh z1 z2]
    unfold wy0
    by_cases q : i = z.toNat
    · simp [q]
    · have q2 : ¬ (i : Int) = z := by omega
      simp [q, q2]
  obtain ⟨g', A', i1, i0, i2, i3⟩ := x_rc61 (W := fun i => (tb wd i && tb E i) && !decide (i = z.toNat)) (fun i hi => by
      apply Classical.byContradiction
      intro hc
      have := hwd i (by omega)
      simp only [this, Bool.false_and] at hi
      exact absurd hi (by decide)) ha hT hnet n1 n2 s1 s2 sp2 p1 p2 b1 b2 400 NF b0 _ _ _ (by omega) (by omega) (by omega) hA0 (fun i j1 j2 => by unfold wy0; split <;> omega) hm0
  have hsh : Shut n p (s + b0 + 400) (s + b0) P L (fun i => tb E i.toNat = true) := by
    intro k t k1 k2 t1 t2 hL
    have hr := ((hT.2.2.2.2 k k1 k2).1 (t - s) (by omega) (by omega)).2
    rw [show s + (t - s) = t by omega] at hr
    obtain ⟨-, r1, r2⟩ := hr hL
    have hc := hclo k k1 k2
    have up : ∀ i, tb (u.2 15 k.toNat) i = true → tb E i = true → ∀ i', tb (u.2 15 k.toNat) i' = true → tb E i' = true := by
      intro i h1 h2 i' h3
      rcases hc with hc | hc
      · have := tb_and (u.2 15 k.toNat) E i
        rw [hc, tb_zero, h1, h2] at this
        exact absurd this (by decide)
      · have := tb_or E (u.2 15 k.toNat) i'
        rw [hc, h3, Bool.or_true] at this
        exact this
    exact ⟨fun h => up _ r2 h _ r1, fun h => up _ r1 h _ r2⟩
  have hfin := wyT_sh hsh n1 400 (s + b0) (wy0 z (s + b0)) (by omega) (by omega) (fun i hi => by
    unfold wy0 at hi
    by_cases q : i = z
    · rw [q]
      exact hin
    · rw [if_neg q] at hi
      exact absurd rfl hi)
  refine ⟨g', fun i j1 j2 hw => ?_, ?_⟩
  · rw [i1 i j1 j2]
    show I (cv s (A' i)) = I (cv s (wyT p (s + b0 + 400) P L n.toNat 400 (s + b0) (wy0 z (s + b0)) i))
    rcases i2 with i2 | ⟨i2, d', t', i4, i5, i6⟩
    · rw [i2]
    · rw [i6]
      by_cases q : A' i = 100000
      · have hnot : wyT p (s + b0 + 400) P L n.toNat d' t' A' i = 100000 := by
          apply Classical.byContradiction
          intro hc
          have hiz : ¬ i = z := by
            intro e
            apply i0 i ?_ q
            unfold wy0
            rw [if_pos e]
            omega
          have hE2 := hfin i (by rw [i6]; exact hc)
          have := i2 i.toNat (by
            show ((tb wd i.toNat && tb E i.toNat) && !decide (i.toNat = z.toNat)) = true
            rw [hw, hE2, decide_eq_false (show ¬ i.toNat = z.toNat by omega)]
            rfl)
          rw [show ((i.toNat : Nat) : Int) = i by omega] at this
          exact this q
        rw [q, hnot]
      · rw [wyT_st d' t' A' q]
  · have ea : ∀ g, (sfX u a g).2 a = g := fun g => vu_eq _ _ _
    unfold mX9_reach alX
    simp only [nm]
    rw [f2, Option.bind_some, if_pos hlen.1, hlen.2]
    rw [show (nI 8 : Int32) = I 8 from rfl, show (0 : Int32) = I 0 from rfl, if_neg (by rw [I_lt (by omega) (by omega) (by omega) (by omega)]; omega), if_pos (by rw [I_lt (by omega) (by omega) (by omega) (by omega)]; omega), wrX_8 ha z1 z2, saX_sfX, hev, Option.bind_some]
    have e16 : (sfX u a (upd g0 z.toNat (I b0))).1 16 = I sp := hT.2.1
    have e17 : (sfX u a (upd g0 z.toNat (I b0))).1 17 = I p := hT.2.2.1
    rw [e16, e17, show (400 : Int32) = I 400 from rfl, I_add, mmin_eq, Option.bind_some]
    have emin : (if I (b0 + 400) < I sp then I (b0 + 400) else I sp) = I (b0 + 400) := by
      by_cases q : b0 + 400 < sp
      · rw [if_pos (by rw [I_lt (by omega) (by omega) (by omega) (by omega)]; exact q)]
      · rw [if_neg (by rw [I_lt (by omega) (by omega) (by omega) (by omega)]; exact q), show sp = b0 + 400 by omega]
    rw [emin, I_sub]
    exact i3
