def sN : Nat → (Int → Int) → Int
  | 0, _ => 0
  | d + 1, f => sN d f + f d
theorem sN_congr {f g : Int → Int} : ∀ d : Nat, (∀ i : Int, 0 ≤ i → i < d → f i = g i) → sN d f = sN d g
  | 0, _ => rfl
  | d + 1, h => by
      show sN d f + f d = sN d g + g d
      rw [sN_congr d (fun i i1 i2 => h i i1 (by omega)), h d (by omega) (by omega)]
theorem sN_le {f g : Int → Int} : ∀ d : Nat, (∀ i : Int, 0 ≤ i → i < d → f i ≤ g i) → sN d f ≤ sN d g
  | 0, _ => Int.le_refl _
  | d + 1, h => by
      show sN d f + f d ≤ sN d g + g d
      have a := sN_le d (fun i i1 i2 => h i i1 (by omega))
      have b := h d (by omega) (by omega)
      omega
theorem sN_add (f g : Int → Int) : ∀ d : Nat, sN d (fun i => f i + g i) = sN d f + sN d g
  | 0 => rfl
  | d + 1 => by
      show sN d (fun i => f i + g i) + (f d + g d) = (sN d f + f d) + (sN d g + g d)
      rw [sN_add f g d]
      omega
theorem sN_one (k x : Int) (hk : 0 ≤ k) : ∀ d : Nat, sN d (fun i => if i = k then x else 0) = if k < d then x else 0
  | 0 => by
      rw [if_neg (by omega)]
      rfl
  | d + 1 => by
      show sN d (fun i => if i = k then x else 0) + (if (d : Int) = k then x else 0) = _
      rw [sN_one k x hk d]
      (repeat' split) <;> omega
theorem sN_c (c : Int) : ∀ d : Nat, sN d (fun _ => c) = d * c
  | 0 => by
      show (0 : Int) = ((0 : Nat) : Int) * c
      simp
  | d + 1 => by
      show sN d (fun _ => c) + c = _
      rw [sN_c c d, show ((d + 1 : Nat) : Int) = (d : Int) + 1 by omega, Int.add_mul, Int.one_mul]
theorem sN_up {f : Int → Int} {d : Nat} {k x : Int} (k1 : 0 ≤ k) (k2 : k < d) : sN d (fup f k x) = sN d f + (x - f k) := by
  have e : sN d (fup f k x) = sN d (fun i => f i + (if i = k then x - f k else 0)) := by
    apply sN_congr
    intro i i1 i2
    unfold fup
    split
    · rename_i q
      rw [q]
      omega
    · omega
  rw [e, sN_add, sN_one _ _ k1, if_pos k2]
def s2 (a b : Nat) (f : Int → Int → Int) : Int := sN a (fun i => sN b (f i))
theorem s2_le {a b : Nat} {f g : Int → Int → Int} (h : ∀ i j : Int, 0 ≤ i → i < a → 0 ≤ j → j < b → f i j ≤ g i j) : s2 a b f ≤ s2 a b g := sN_le a (fun i i1 i2 => sN_le b (fun j j1 j2 => h i j i1 i2 j1 j2))
theorem s2_congr {a b : Nat} {f g : Int → Int → Int} (h : ∀ i j : Int, 0 ≤ i → i < a → 0 ≤ j → j < b → f i j = g i j) : s2 a b f = s2 a b g := sN_congr a (fun i i1 i2 => sN_congr b (fun j j1 j2 => h i j i1 i2 j1 j2))
theorem s2_add (a b : Nat) (f g : Int → Int → Int) : s2 a b (fun i j => f i j + g i j) = s2 a b f + s2 a b g := by
  unfold s2
  rw [← sN_add]
  exact sN_congr a (fun i _ _ => sN_add (f i) (g i) b)
theorem s2_up {a b : Nat} {f g : Int → Int → Int} {k t x : Int} (k1 : 0 ≤ k) (k2 : k < a) (t1 : 0 ≤ t) (t2 : t < b) (h : ∀ i j : Int, 0 ≤ i → i < a → 0 ≤ j → j < b → g i j = f i j + (if i = k ∧ j = t then x else 0)) : s2 a b g = s2 a b f + x := by
  rw [s2_congr h, s2_add]
  have e : s2 a b (fun i j => if i = k ∧ j = t then x else 0) = x := by
    unfold s2
    have e1 : sN a (fun i => sN b (fun j => if i = k ∧ j = t then x else 0)) = sN a (fun i => if i = k then x else 0) := by
      apply sN_congr
      intro i i1 i2
      by_cases q : i = k
      · rw [if_pos q]
        have : sN b (fun j => if i = k ∧ j = t then x else 0) = sN b (fun j => if j = t then x else 0) := by
          apply sN_congr
          intro j j1 j2
          by_cases q2 : j = t
          · rw [if_pos ⟨q, q2⟩, if_pos q2]
          · rw [if_neg (fun g => q2 g.2), if_neg q2]
        rw [this, sN_one _ _ t1, if_pos t2]
      · rw [if_neg q]
        have : sN b (fun j => if i = k ∧ j = t then x else 0) = sN b (fun _ => 0) := by
          apply sN_congr
          intro j j1 j2
          rw [if_neg (fun g => q g.1)]
        rw [this, sN_c, Int.mul_zero]
    rw [e1, sN_one _ _ k1, if_pos k2]
  rw [e]
/-- arcs: 0 from the pivot, 1 to the pivot, 2 a wait -/
abbrev VA (sp p n : Int) (M : Int → Int → Int) (c k t : Int) : Prop := (c = 2 ∧ 0 ≤ k ∧ k < 8 ∧ 0 ≤ t ∧ t < sp) ∨ ((c = 0 ∨ c = 1) ∧ 0 ≤ k ∧ k < n ∧ 0 ≤ t ∧ t + p ≤ sp ∧ M k t ≠ -1)
def ti (P : Int → Int) (M : Int → Int → Int) (c k t : Int) : Int := if c = 2 then k else if c = 0 then P k else M k t
def hi (P : Int → Int) (M : Int → Int → Int) (c k t : Int) : Int := if c = 2 then k else if c = 0 then M k t else P k
def ht (p c t : Int) : Int := if c = 2 then t + 1 else t + p
def wgt (sp p n : Int) (P : Int → Int) (M : Int → Int → Int) (X : Int → Int → Int) (c k t : Int) : Int := if VA sp p n M c k t then X (ti P M c k t) t - X (hi P M c k t) (ht p c t) else 0
def Phi (sp p n : Int) (P : Int → Int) (M : Int → Int → Int) (X : Int → Int → Int) (F : Int → Int → Int → Int) : Int := s2 10 61 (fun k t => F 0 k t * wgt sp p n P M X 0 k t) + s2 10 61 (fun k t => F 1 k t * wgt sp p n P M X 1 k t) + s2 8 61 (fun k t => F 2 k t * wgt sp p n P M X 2 k t)
def Fup (F : Int → Int → Int → Int) (c k t x : Int) : Int → Int → Int → Int := fun c' k' t' => if c' = c ∧ k' = k ∧ t' = t then F c' k' t' + x else F c' k' t'
theorem Fup_eq (F : Int → Int → Int → Int) (c k t x : Int) : Fup F c k t x c k t = F c k t + x := if_pos ⟨rfl, rfl, rfl⟩
theorem Fup_ne {F : Int → Int → Int → Int} {c k t x c' k' t' : Int} (h : ¬ (c' = c ∧ k' = k ∧ t' = t)) : Fup F c k t x c' k' t' = F c' k' t' := if_neg h
theorem Phi_up {sp p n : Int} {P : Int → Int} {M : Int → Int → Int} {X : Int → Int → Int} {F : Int → Int → Int → Int} {c k t x : Int} (hv : VA sp p n M c k t) (n2 : n ≤ 10) (sp2 : sp ≤ 60) (p1 : 1 ≤ p) : Phi sp p n P M X (Fup F c k t x) = Phi sp p n P M X F + x * (X (ti P M c k t) t - X (hi P M c k t) (ht p c t)) := by
  have hw : wgt sp p n P M X c k t = X (ti P M c k t) t - X (hi P M c k t) (ht p c t) := if_pos hv
  rw [← hw]
  have key : ∀ c', (∀ k' t', c' ≠ c → Fup F c k t x c' k' t' * wgt sp p n P M X c' k' t' = F c' k' t' * wgt sp p n P M X c' k' t') := by
    intro c' k' t' q
    rw [Fup_ne (fun g => q g.1)]
  have key2 : ∀ i j : Int, Fup F c k t x c i j * wgt sp p n P M X c i j = F c i j * wgt sp p n P M X c i j + (if i = k ∧ j = t then x * wgt sp p n P M X c k t else 0) := by
    intro i j
    by_cases q : i = k ∧ j = t
    · rw [if_pos q, q.1, q.2, Fup_eq, Int.add_mul]
    · rw [if_neg q, Fup_ne (fun g => q ⟨g.2.1, g.2.2⟩), Int.add_zero]
  have other : ∀ (a : Nat) (c' : Int), c' ≠ c → s2 a 61 (fun k' t' => Fup F c k t x c' k' t' * wgt sp p n P M X c' k' t') = s2 a 61 (fun k' t' => F c' k' t' * wgt sp p n P M X c' k' t') := fun a c' q => s2_congr (fun i j _ _ _ _ => key c' i j q)
  have same : ∀ (a : Nat), k < a → s2 a 61 (fun k' t' => Fup F c k t x c k' t' * wgt sp p n P M X c k' t') = s2 a 61 (fun k' t' => F c k' t' * wgt sp p n P M X c k' t') + x * wgt sp p n P M X c k t := fun a hk => s2_up (k := k) (t := t) (by omega) hk (by omega) (by omega) (fun i j _ _ _ _ => key2 i j)
  unfold Phi
  rcases (show c = 0 ∨ c = 1 ∨ c = 2 by omega) with q | q | q
  · subst q
    rw [same 10 (by omega), other 10 1 (by omega), other 8 2 (by omega)]
    omega
  · subst q
    rw [same 10 (by omega), other 10 0 (by omega), other 8 2 (by omega)]
    omega
  · subst q
    rw [same 8 (by omega), other 10 0 (by omega), other 10 1 (by omega)]
    omega
/-- one step in what is left -/
def RS (sp p n : Int) (P : Int → Int) (M : Int → Int → Int) (F : Int → Int → Int → Int) (i t j s c k q x : Int) : Prop := VA sp p n M c k q ∧ ((x = 1 ∧ i = ti P M c k q ∧ t = q ∧ j = hi P M c k q ∧ s = ht p c q ∧ (c = 2 ∨ F c k q = 0)) ∨ (x = -1 ∧ i = hi P M c k q ∧ t = ht p c q ∧ j = ti P M c k q ∧ s = q ∧ 1 ≤ F c k q))
def FV (sp p n : Int) (M : Int → Int → Int) (B : Int) (F : Int → Int → Int → Int) : Prop := ∀ c k t, (c = 0 ∨ c = 1 ∨ c = 2) → 0 ≤ F c k t ∧ (c ≠ 2 → F c k t ≤ 1) ∧ F c k t ≤ B ∧ (F c k t ≠ 0 → VA sp p n M c k t)
theorem RS.phi {sp p n : Int} {P : Int → Int} {M : Int → Int → Int} {F : Int → Int → Int → Int} {i t j s c k q x : Int} (h : RS sp p n P M F i t j s c k q x) (n2 : n ≤ 10) (sp2 : sp ≤ 60) (p1 : 1 ≤ p) (X : Int → Int → Int) : Phi sp p n P M X (Fup F c k q x) = Phi sp p n P M X F + (X i t - X j s) := by
  obtain ⟨hv, h⟩ := h
  rw [Phi_up hv n2 sp2 p1]
  rcases h with ⟨rfl, rfl, rfl, rfl, rfl, -⟩ | ⟨rfl, rfl, rfl, rfl, rfl, -⟩
  · rw [Int.one_mul]
  · omega
theorem RS.fv {sp p n B : Int} {P : Int → Int} {M : Int → Int → Int} {F : Int → Int → Int → Int} {i t j s c k q x : Int} (h : RS sp p n P M F i t j s c k q x) (hF : FV sp p n M B F) : FV sp p n M (B + 1) (Fup F c k q x) := by
  obtain ⟨hv, h⟩ := h
  intro c' k' t' hc
  have a := hF c' k' t' hc
  by_cases e : c' = c ∧ k' = k ∧ t' = q
  · obtain ⟨rfl, rfl, rfl⟩ := e
    rw [Fup_eq]
    rcases h with ⟨rfl, -, -, -, -, h⟩ | ⟨rfl, -, -, -, -, h⟩
    · exact ⟨by omega, fun _ => by omega, by omega, fun _ => hv⟩
    · exact ⟨by omega, fun z => by have := a.2.1 z; omega, by omega, fun _ => hv⟩
  · rw [Fup_ne e]
    exact ⟨a.1, a.2.1, by omega, a.2.2.2⟩
/-- what is seen from a shut set: no other flow brings more out of it -/
theorem Phi_mono {sp p n B B' : Int} {P : Int → Int} {M : Int → Int → Int} {F G : Int → Int → Int → Int} {X : Int → Int → Int} (hF : FV sp p n M B F) (hG : FV sp p n M B' G) (hX : ∀ i t, X i t = 0 ∨ X i t = 1) (hc : ∀ i t j s c k q x, RS sp p n P M F i t j s c k q x → X i t = 1 → X j s = 1) : Phi sp p n P M X G ≤ Phi sp p n P M X F := by
  have key : ∀ c k t, (c = 0 ∨ c = 1 ∨ c = 2) → G c k t * wgt sp p n P M X c k t ≤ F c k t * wgt sp p n P M X c k t := by
    intro c k t hcc
    unfold wgt
    by_cases hv : VA sp p n M c k t
    · rw [if_pos hv]
      have a := hF c k t hcc
      have b := hG c k t hcc
      rcases hX (ti P M c k t) t with q1 | q1 <;> rcases hX (hi P M c k t) (ht p c t) with q2 | q2
      · rw [q1, q2, show (0 : Int) - 0 = 0 from rfl, Int.mul_zero, Int.mul_zero]
        exact Int.le_refl _
      · have : ¬ 1 ≤ F c k t := by
          intro g
          have := hc _ _ _ _ c k t (-1) ⟨hv, .inr ⟨rfl, rfl, rfl, rfl, rfl, g⟩⟩ q2
          omega
        rw [q1, q2]
        omega
      · have : ¬ (c = 2 ∨ F c k t = 0) := by
          intro g
          have := hc _ _ _ _ c k t 1 ⟨hv, .inl ⟨rfl, rfl, rfl, rfl, rfl, g⟩⟩ q1
          omega
        have b2 := b.2.1 (by omega)
        rw [q1, q2]
        omega
      · rw [q1, q2, show (1 : Int) - 1 = 0 from rfl, Int.mul_zero, Int.mul_zero]
        exact Int.le_refl _
    · rw [if_neg hv, Int.mul_zero, Int.mul_zero]
      exact Int.le_refl _
  have a := s2_le (a := 10) (b := 61) (fun k t _ _ _ _ => key 0 k t (.inl rfl))
  have b := s2_le (a := 10) (b := 61) (fun k t _ _ _ _ => key 1 k t (.inr (.inl rfl)))
  have c := s2_le (a := 8) (b := 61) (fun k t _ _ _ _ => key 2 k t (.inr (.inr rfl)))
  unfold Phi
  omega
theorem Phi_610 {sp p n B f : Int} {P : Int → Int} {M : Int → Int → Int} {F : Int → Int → Int → Int} (hF : FV sp p n M B F) : Phi sp p n P M (fun i _ => if i = f then 1 else 0) F ≤ 610 := by
  have w2 : ∀ k t, wgt sp p n P M (fun i _ => if i = f then 1 else 0) 2 k t = 0 := by
    intro k t
    unfold wgt ti hi
    split
    · rw [if_pos rfl, if_pos rfl]
      exact Int.sub_self _
    · rfl
  have key : ∀ k t : Int, F 0 k t * wgt sp p n P M (fun i _ => if i = f then 1 else 0) 0 k t + F 1 k t * wgt sp p n P M (fun i _ => if i = f then 1 else 0) 1 k t ≤ 1 := by
    intro k t
    have a := hF 0 k t (.inl rfl)
    have b := hF 1 k t (.inr (.inl rfl))
    have a2 := a.2.1 (by omega)
    have b2 := b.2.1 (by omega)
    have e0 : wgt sp p n P M (fun i _ => if i = f then 1 else 0) 0 k t = if VA sp p n M 0 k t then (if P k = f then 1 else 0) - (if M k t = f then 1 else 0) else 0 := rfl
    have e1 : wgt sp p n P M (fun i _ => if i = f then 1 else 0) 1 k t = if VA sp p n M 1 k t then (if M k t = f then 1 else 0) - (if P k = f then 1 else 0) else 0 := rfl
    by_cases hv : VA sp p n M 0 k t
    · rw [e0, e1, if_pos hv, if_pos (show VA sp p n M 1 k t by omega)]
      by_cases q1 : P k = f <;> by_cases q2 : M k t = f
      · rw [if_pos q1, if_pos q2]
        omega
      · rw [if_pos q1, if_neg q2]
        omega
      · rw [if_neg q1, if_pos q2]
        omega
      · rw [if_neg q1, if_neg q2]
        omega
    · rw [e0, e1, if_neg hv, if_neg (show ¬ VA sp p n M 1 k t by omega)]
      omega
  have s := s2_le (a := 10) (b := 61) (g := fun _ _ => 1) (fun k t _ _ _ _ => key k t)
  rw [s2_add] at s
  have c1 : s2 10 61 (fun _ _ => 1) = 610 := by
    unfold s2
    rw [sN_c, sN_c]
    rfl
  have c2 : s2 8 61 (fun k t => F 2 k t * wgt sp p n P M (fun i _ => if i = f then 1 else 0) 2 k t) = 0 := by
    have : s2 8 61 (fun k t => F 2 k t * wgt sp p n P M (fun i _ => if i = f then 1 else 0) 2 k t) = s2 8 61 (fun _ _ => 0) := s2_congr (fun k t _ _ _ _ => by rw [w2, Int.mul_zero])
    rw [this]
    unfold s2
    rw [sN_c, sN_c]
    rfl
  unfold Phi
  omega
theorem Phi_0 {sp p n : Int} {P : Int → Int} {M : Int → Int → Int} (X : Int → Int → Int) : Phi sp p n P M X (fun _ _ _ => 0) = 0 := by
  have z : ∀ a c, s2 a 61 (fun k t => (0 : Int) * wgt sp p n P M X c k t) = 0 := by
    intro a c
    have : s2 a 61 (fun k t => (0 : Int) * wgt sp p n P M X c k t) = s2 a 61 (fun _ _ => 0) := s2_congr (fun k t _ _ _ _ => Int.zero_mul _)
    rw [this]
    unfold s2
    rw [sN_c, sN_c]
    simp
  unfold Phi
  rw [z, z, z]
  rfl
/-- a flow from (f, 0) to the islet g -/
def Flw (sp p n : Int) (P : Int → Int) (M : Int → Int → Int) (f g v : Int) (F : Int → Int → Int → Int) : Prop := ∀ X : Int → Int → Int, X f 0 = 1 → (∀ t, X g t = 0) → Phi sp p n P M X F = v
theorem Flw_le {sp p n B f g v : Int} {P : Int → Int} {M : Int → Int → Int} {F : Int → Int → Int → Int} (hF : FV sp p n M B F) (h : Flw sp p n P M f g v F) (hfg : f ≠ g) : v ≤ 610 := by
  have a := h (fun i _ => if i = f then 1 else 0) (if_pos rfl) (fun t => if_neg (by omega))
  have b := Phi_610 (f := f) (P := P) hF
  omega
theorem Flw_0 (sp p n : Int) (P : Int → Int) (M : Int → Int → Int) (f g : Int) : Flw sp p n P M f g 0 (fun _ _ _ => 0) := fun X _ _ => Phi_0 X
/-- a shut set that has (f, 0) and none of the islet g -/
def Shu (sp p n : Int) (P : Int → Int) (M : Int → Int → Int) (f g : Int) (F : Int → Int → Int → Int) : Prop := ∃ X : Int → Int → Int, X f 0 = 1 ∧ (∀ t, X g t = 0) ∧ (∀ i t, X i t = 0 ∨ X i t = 1) ∧ ∀ i t j s c k q x, RS sp p n P M F i t j s c k q x → X i t = 1 → X j s = 1
theorem Flw_eq {sp p n B B' f g v w : Int} {P : Int → Int} {M : Int → Int → Int} {F G : Int → Int → Int → Int} (hF : FV sp p n M B F) (hG : FV sp p n M B' G) (h1 : Flw sp p n P M f g v F) (h2 : Flw sp p n P M f g w G) (s1 : Shu sp p n P M f g F) (s2 : Shu sp p n P M f g G) : v = w := by
  obtain ⟨X, a1, a2, a3, a4⟩ := s1
  obtain ⟨Y, b1, b2, b3, b4⟩ := s2
  have m1 := Phi_mono hF hG a3 a4
  have m2 := Phi_mono hG hF b3 b4
  rw [h1 X a1 a2, h2 X a1 a2] at m1
  rw [h1 Y b1 b2, h2 Y b1 b2] at m2
  omega
