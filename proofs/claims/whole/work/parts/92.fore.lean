theorem wy1_new {p lim one two t : Int} {A : Int → Int} {i : Int} (h : A i = 100000) : wy1 p lim one two t A i = 100000 ∨ wy1 p lim one two t A i = t + p := by
  unfold wy1
  split
  · exact .inl h
  · split
    · by_cases e : i = two
      · subst e
        rw [fup_eq]
        exact .inr rfl
      · rw [fup_ne e]
        exact .inl h
    · split
      · by_cases e : i = one
        · subst e
          rw [fup_eq]
          exact .inr rfl
        · rw [fup_ne e]
          exact .inl h
      · exact .inl h
theorem wyR_new {p lim t : Int} {P : Int → Int} {L : Int → Int → Int} {i : Int} (ht : t + p < 100000) : ∀ (d : Nat) (j : Int) (A : Int → Int), A i = 100000 → wyR p lim P L t d j A i = 100000 ∨ wyR p lim P L t d j A i = t + p
  | 0, _, _, h => .inl h
  | d + 1, j, A, h => by
      have e : wyR p lim P L t (d + 1) j A = wyR p lim P L t d (j + 1) (wy1 p lim (P j) (L j t) t A) := rfl
      rw [e]
      rcases wy1_new (p := p) (lim := lim) (one := P j) (two := L j t) (t := t) h with q | q
      · exact wyR_new ht d (j + 1) _ q
      · rw [wyR_st d (j + 1) _ (by omega)]
        exact .inr q
theorem wyT_new {p lim : Int} {P : Int → Int} {L : Int → Int → Int} {n : Nat} {i : Int} : ∀ (d : Nat) (t : Int) (A : Int → Int), t + d + p < 100000 → A i = 100000 → wyT p lim P L n d t A i = 100000 ∨ t + p ≤ wyT p lim P L n d t A i
  | 0, _, _, _, h => .inl h
  | d + 1, t, A, ht, h => by
      have e : wyT p lim P L n (d + 1) t A = wyT p lim P L n d (t + 1) (wyR p lim P L t n 0 A) := rfl
      rw [e]
      rcases wyR_new (p := p) (lim := lim) (P := P) (L := L) (t := t) (by omega) n 0 A h with q | q
      · have := wyT_new (p := p) (lim := lim) (P := P) (L := L) (n := n) d (t + 1) _ (by omega) q
        omega
      · rw [wyT_st d (t + 1) _ (by omega)]
        exact .inr (by omega)
/-- what a way over a row brings -/
def Cl (p one two t : Int) (B : Int → Int) : Prop := (B one ≤ t → B two ≤ t + p) ∧ (B two ≤ t → B one ≤ t + p)
theorem wy1_cl {p lim one two t : Int} {A : Int → Int} (hA1 : A one = 100000 ∨ A one ≤ t + p) (hA2 : A two = 100000 ∨ A two ≤ t + p) (hne : two ≠ one) (h2 : two ≠ -1) (hl : t + p ≤ lim) (p1 : 1 ≤ p) (ht : t + p < 100000) : Cl p one two t (wy1 p lim one two t A) := by
  unfold wy1
  rw [if_neg (by omega)]
  by_cases c1 : A one ≤ t ∧ A two = 100000
  · rw [if_pos c1]
    refine ⟨fun _ => ?_, fun h => ?_⟩
    · rw [fup_eq]
      omega
    · rw [fup_eq] at h
      omega
  · rw [if_neg c1]
    by_cases c2 : A two ≤ t ∧ A one = 100000
    · rw [if_pos c2]
      refine ⟨fun h => ?_, fun _ => ?_⟩
      · rw [fup_eq] at h
        omega
      · rw [fup_eq]
        omega
    · rw [if_neg c2]
      exact ⟨fun h => by omega, fun h => by omega⟩
theorem Cl.later {p one two t : Int} {A B : Int → Int} (h : Cl p one two t A) (h1 : ∀ i, A i ≠ 100000 → B i = A i) (h2 : ∀ i, A i = 100000 → B i = 100000 ∨ t + p ≤ B i) (p1 : 1 ≤ p) (ht : t + p < 100000) : Cl p one two t B := by
  refine ⟨fun q => ?_, fun q => ?_⟩
  · have a : A one ≠ 100000 := fun e => by have := h2 one e; omega
    have b := h.1 (by rw [← h1 one a]; exact q)
    rw [h1 two (by omega)]
    exact b
  · have a : A two ≠ 100000 := fun e => by have := h2 two e; omega
    have b := h.2 (by rw [← h1 two a]; exact q)
    rw [h1 one (by omega)]
    exact b
theorem wyR_cl {p lim t n : Int} {P : Int → Int} {L : Int → Int → Int} (hnet : Net n P L) (t1 : 0 ≤ t) (hl : t + p ≤ lim) (p1 : 1 ≤ p) (ht : t + p < 100000) : ∀ (d : Nat) (j : Int) (A : Int → Int), 0 ≤ j → j + d ≤ n → Aok A (t + p) → ∀ k, j ≤ k → k < j + d → L k t ≠ -1 → Cl p (P k) (L k t) t (wyR p lim P L t d j A)
  | 0, j, _, _, _, _, k, h1, h2, _ => by omega
  | d + 1, j, A, j1, j2, hA, k, h1, h2, hL => by
      have e : wyR p lim P L t (d + 1) j A = wyR p lim P L t d (j + 1) (wy1 p lim (P j) (L j t) t A) := rfl
      rw [e]
      by_cases q : k = j
      · subst q
        have hn := hnet k j1 (by omega)
        have hl2 := hn.2 t t1
        have a1 := hA (P k) hn.1.1 (by omega)
        have a2 := hA (L k t) (by omega) (by omega)
        exact (wy1_cl (lim := lim) (by omega) (by omega) (by omega) hL hl p1 ht).later (fun i hi => wyR_st d (k + 1) _ hi) (fun i hi => by
          have := wyR_new (p := p) (lim := lim) (P := P) (L := L) (t := t) ht d (k + 1) _ hi
          omega) p1 ht
      · exact wyR_cl hnet t1 hl p1 ht d (j + 1) _ (by omega) (by omega) (wy1_ok hA (by omega) (Int.le_refl _)) k (by omega) (by omega) hL
theorem wyT_cl {p lim n : Int} {P : Int → Int} {L : Int → Int → Int} (hnet : Net n P L) (n1 : 0 ≤ n) (p1 : 1 ≤ p) : ∀ (d : Nat) (s : Int) (A : Int → Int), 0 ≤ s → s + d + p < 100000 → Aok A (s + p) → ∀ t, s ≤ t → t < s + d → t + p ≤ lim → ∀ k, 0 ≤ k → k < n → L k t ≠ -1 → Cl p (P k) (L k t) t (wyT p lim P L n.toNat d s A)
  | 0, s, _, _, _, _, t, h1, h2, _, _, _, _, _ => by omega
  | d + 1, s, A, s1, s2, hA, t, h1, h2, hl, k, k1, k2, hL => by
      have e : wyT p lim P L n.toNat (d + 1) s A = wyT p lim P L n.toNat d (s + 1) (wyR p lim P L s n.toNat 0 A) := rfl
      rw [e]
      by_cases q : t = s
      · subst q
        exact (wyR_cl hnet s1 hl p1 (by omega) n.toNat 0 A (by omega) (by omega) hA k k1 (by omega) hL).later (fun i hi => wyT_st d (t + 1) _ hi) (fun i hi => by
          have := wyT_new (p := p) (lim := lim) (P := P) (L := L) (n := n.toNat) d (t + 1) _ (by omega) hi
          omega) p1 (by omega)
      · exact wyT_cl hnet n1 p1 d (s + 1) _ (by omega) (by omega) ((wyR_ok (by omega) (Int.le_refl _) _ _ _ hA).mono (by omega)) t (by omega) (by omega) hl k k1 k2 hL
/-- first minutes in one islet, from each islet and minute -/
def GP (G : Int → Int → Int) (p n y z : Int) (P : Int → Int) (L : Int → Int → Int) (lo : Int) : Prop := ∀ t, lo ≤ t → t ≤ z → G y t = t ∧ (∀ k, 0 ≤ k → k < n → t + p ≤ z → L k t ≠ -1 → G (P k) t ≤ G (L k t) (t + p) ∧ G (L k t) t ≤ G (P k) (t + p)) ∧ ∀ i, 0 ≤ i → i < 8 → (t ≤ G i t ∧ G i t ≤ 2147483647) ∧ (t < z → G i t ≤ G i (t + 1)) ∧ (G i t = 2147483647 ∨ (i = y ∧ G i t = t) ∨ (t < z ∧ G i t = G i (t + 1)) ∨ ∃ k, 0 ≤ k ∧ k < n ∧ t + p ≤ z ∧ L k t ≠ -1 ∧ ((P k = i ∧ G i t = G (L k t) (t + p)) ∨ (L k t = i ∧ G i t = G (P k) (t + p))))
theorem GP.mono {G : Int → Int → Int} {p n y z lo : Int} {P : Int → Int} {L : Int → Int → Int} (h : GP G p n y z P L lo) {i : Int} (i1 : 0 ≤ i) (i2 : i < 8) : ∀ (d : Nat) (t : Int), lo ≤ t → t + d ≤ z → G i t ≤ G i (t + d)
  | 0, t, _, _ => by
      rw [show t + ((0 : Nat) : Int) = t by omega]
      exact Int.le_refl _
  | d + 1, t, h1, h2 => by
      have a := ((h t h1 (by omega)).2.2 i i1 i2).2.1 (by omega)
      have b := GP.mono h i1 i2 d (t + 1) (by omega) (by omega)
      rw [show t + 1 + (d : Int) = t + ((d + 1 : Nat) : Int) by omega] at b
      omega
def Pot (G : Int → Int → Int) (g0 s lim : Int) (A : Int → Int) : Prop := ∀ i, 0 ≤ i → i < 8 → A i = 100000 ∨ (s ≤ A i ∧ A i ≤ lim ∧ g0 ≤ G i (A i))
theorem Pot.up {G : Int → Int → Int} {g0 s lim k x : Int} {A : Int → Int} (h : Pot G g0 s lim A) (h1 : s ≤ x) (h2 : x ≤ lim) (h3 : g0 ≤ G k x) : Pot G g0 s lim (fup A k x) := by
  intro i i1 i2
  by_cases e : i = k
  · subst e
    rw [fup_eq]
    exact .inr ⟨h1, h2, h3⟩
  · rw [fup_ne e]
    exact h i i1 i2
theorem wy1_pot {G : Int → Int → Int} {p n y z lo g0 s lim t k : Int} {P : Int → Int} {L : Int → Int → Int} (hG : GP G p n y z P L lo) (hnet : Net n P L) (k1 : 0 ≤ k) (k2 : k < n) (s1 : lo ≤ s) (s0 : 0 ≤ s) (st : s ≤ t) (hz : lim ≤ z) (p1 : 1 ≤ p) (ht : t < 100000) {A : Int → Int} (h : Pot G g0 s lim A) : Pot G g0 s lim (wy1 p lim (P k) (L k t) t A) := by
  unfold wy1
  split
  · exact h
  · rename_i q
    have hn := hnet k k1 k2
    have hl := hn.2 t (by omega)
    have hr := (hG t (by omega) (by omega)).2.1 k k1 k2 (by omega) (by omega)
    have hm : ∀ i, 0 ≤ i → i < 8 → A i ≤ t → g0 ≤ G i t := by
      intro i i1 i2 hi
      have a := h i i1 i2
      have b := hG.mono i1 i2 (t - A i).toNat (A i) (by omega) (by omega)
      rw [show A i + ((t - A i).toNat : Int) = t by omega] at b
      omega
    split
    · rename_i q2
      have := hm (P k) hn.1.1 (by omega) q2.1
      exact h.up (by omega) (by omega) (by omega)
    · split
      · rename_i q2
        have := hm (L k t) (by omega) (by omega) q2.1
        exact h.up (by omega) (by omega) (by omega)
      · exact h
theorem wyR_pot {G : Int → Int → Int} {p n y z lo g0 s lim t : Int} {P : Int → Int} {L : Int → Int → Int} (hG : GP G p n y z P L lo) (hnet : Net n P L) (s1 : lo ≤ s) (s0 : 0 ≤ s) (st : s ≤ t) (hz : lim ≤ z) (p1 : 1 ≤ p) (ht : t < 100000) : ∀ (d : Nat) (j : Int) (A : Int → Int), 0 ≤ j → j + d ≤ n → Pot G g0 s lim A → Pot G g0 s lim (wyR p lim P L t d j A)
  | 0, _, _, _, _, h => h
  | d + 1, j, A, j1, j2, h => wyR_pot hG hnet s1 s0 st hz p1 ht d (j + 1) _ (by omega) (by omega) (wy1_pot hG hnet j1 (by omega) s1 s0 st hz p1 ht h)
theorem wyT_pot {G : Int → Int → Int} {p n y z lo g0 s lim : Int} {P : Int → Int} {L : Int → Int → Int} (hG : GP G p n y z P L lo) (hnet : Net n P L) (n1 : 0 ≤ n) (s1 : lo ≤ s) (s0 : 0 ≤ s) (hz : lim ≤ z) (p1 : 1 ≤ p) : ∀ (d : Nat) (t : Int) (A : Int → Int), s ≤ t → t + d < 100000 → Pot G g0 s lim A → Pot G g0 s lim (wyT p lim P L n.toNat d t A)
  | 0, _, _, _, _, h => h
  | d + 1, t, A, h1, h2, h => wyT_pot hG hnet n1 s1 s0 hz p1 d (t + 1) _ (by omega) (by omega) (wyR_pot hG hnet s1 s0 h1 hz p1 (by omega) n.toNat 0 A (by omega) (by omega) h)
theorem back_le {G : Int → Int → Int} {p n y z lo s lim : Int} {P : Int → Int} {L : Int → Int → Int} {B : Int → Int} (hG : GP G p n y z P L lo) (hnet : Net n P L) (s1 : lo ≤ s) (s0 : 0 ≤ s) (hz : lim ≤ z) (hz2 : z ≤ 3000) (p1 : 1 ≤ p) (hc : ∀ t, s ≤ t → t + p ≤ lim → ∀ k, 0 ≤ k → k < n → L k t ≠ -1 → Cl p (P k) (L k t) t B) : ∀ (e : Nat) (t i : Int), (lim - t).toNat ≤ e → s ≤ t → t ≤ lim → 0 ≤ i → i < 8 → B i ≤ t → G i t ≤ lim → B y ≤ G i t := by
  intro e
  induction e with
  | zero =>
    intro t i he h1 h2 i1 i2 hb hg
    obtain ⟨g1, g2, g3⟩ := hG t (by omega) (by omega)
    obtain ⟨⟨r1, r2⟩, r3, r4⟩ := g3 i i1 i2
    rcases r4 with q | ⟨q, q2⟩ | ⟨q, q2⟩ | ⟨k, k1, k2, k3, k4, k5⟩
    · omega
    · subst q
      omega
    · have := ((hG (t + 1) (by omega) (by omega)).2.2 i i1 i2).1
      omega
    · have hl := (hnet k k1 k2).2 t (by omega)
      have hp := (hnet k k1 k2).1
      have ga := ((hG (t + p) (by omega) (by omega)).2.2 (P k) (by omega) (by omega)).1
      have gb := ((hG (t + p) (by omega) (by omega)).2.2 (L k t) (by omega) (by omega)).1
      omega
  | succ e ih =>
    intro t i he h1 h2 i1 i2 hb hg
    obtain ⟨g1, g2, g3⟩ := hG t (by omega) (by omega)
    obtain ⟨⟨r1, r2⟩, r3, r4⟩ := g3 i i1 i2
    rcases r4 with q | ⟨q, q2⟩ | ⟨q, q2⟩ | ⟨k, k1, k2, k3, k4, k5⟩
    · omega
    · subst q
      omega
    · have := ((hG (t + 1) (by omega) (by omega)).2.2 i i1 i2).1
      rw [q2]
      exact ih (t + 1) i (by omega) (by omega) (by omega) i1 i2 (by omega) (by omega)
    · have hl := (hnet k k1 k2).2 t (by omega)
      have hp := (hnet k k1 k2).1
      have ga := ((hG (t + p) (by omega) (by omega)).2.2 (P k) (by omega) (by omega)).1
      have gb := ((hG (t + p) (by omega) (by omega)).2.2 (L k t) (by omega) (by omega)).1
      rcases k5 with ⟨k5, k6⟩ | ⟨k5, k6⟩
      · rw [k6]
        refine ih (t + p) (L k t) (by omega) (by omega) (by omega) (by omega) (by omega) ?_ (by omega)
        exact (hc t h1 (by omega) k k1 k2 k4).1 (by rw [k5]; exact hb)
      · rw [k6]
        refine ih (t + p) (P k) (by omega) (by omega) (by omega) (by omega) (by omega) ?_ (by omega)
        exact (hc t h1 (by omega) k k1 k2 k4).2 (by rw [k5]; exact hb)
/-- SOONEST by the table of first minutes -/
theorem soo_G {G : Int → Int → Int} {p n y z x s : Int} {P : Int → Int} {L : Int → Int → Int} (hG : GP G p n y z P L 0) (hnet : Net n P L) (n1 : 0 ≤ n) (s0 : 0 ≤ s) (hz : s + 400 ≤ z) (hz2 : z ≤ 3000) (p1 : 1 ≤ p) (p2 : p ≤ 9) (x1 : 0 ≤ x) (x2 : x < 8) (y1 : 0 ≤ y) (y2 : y < 8) : soo (arr p P L n.toNat x s) y = if G x s ≤ s + 400 then G x s else -1 := by
  have hx0 : wy0 x s x = s := by
    unfold wy0
    rw [if_pos rfl]
  have hpot := wyT_pot (g0 := G x s) (lim := s + 400) hG hnet n1 s0 s0 hz p1 400 s (wy0 x s) (Int.le_refl _) (by omega) (fun i i1 i2 => by
    by_cases e : i = x
    · subst e
      rw [hx0]
      exact .inr ⟨by omega, by omega, by omega⟩
    · left
      unfold wy0
      rw [if_neg e])
  have hcl := wyT_cl (lim := s + 400) hnet n1 p1 400 s (wy0 x s) s0 (by omega) (fun i i1 i2 => by unfold wy0; split <;> omega)
  have hst := wyT_st (p := p) (lim := s + 400) (P := P) (L := L) (n := n.toNat) (i := x) 400 s (wy0 x s) (by rw [hx0]; omega)
  have e : arr p P L n.toNat x s = wyT p (s + 400) P L n.toNat 400 s (wy0 x s) := rfl
  rw [← e] at hpot hcl hst
  generalize arr p P L n.toNat x s = A at *
  rw [hx0] at hst
  have hy := hpot y y1 y2
  have hb := back_le (B := A) (lim := s + 400) hG hnet s0 s0 hz hz2 p1 (fun t h1 h2 k k1 k2 hL => hcl t h1 (by omega) h2 k k1 k2 hL) 400 s x (by omega) (by omega) (by omega) x1 x2 (by omega)
  unfold soo
  by_cases q : G x s ≤ s + 400
  · have hb := hb q
    have h1 : ¬ A y = 100000 := by omega
    have h2 := (hG (A y) (by omega) (by omega)).1
    rw [if_neg h1, if_pos q]
    rw [h2] at hy
    omega
  · rw [if_neg q]
    split
    · rfl
    · have h2 := (hG (A y) (by omega) (by omega)).1
      rw [h2] at hy
      omega
