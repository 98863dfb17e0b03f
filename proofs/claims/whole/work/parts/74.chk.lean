def bo (p : Prop) [Decidable p] : Int := if p then 1 else 0
theorem bo_t {p : Prop} [Decidable p] (h : p) : bo p = 1 := if_pos h
theorem bo_f {p : Prop} [Decidable p] (h : ¬ p) : bo p = 0 := if_neg h
theorem bo_0 (p : Prop) [Decidable p] : (I (bo p) = I 0) = ¬ p := by
  by_cases h : p
  · rw [bo_t h]; simp [h]; decide
  · rw [bo_f h]; simp [h]
theorem bo_1 (p : Prop) [Decidable p] : (I (bo p) = I 1) = p := by
  by_cases h : p
  · rw [bo_t h]; simp [h]
  · rw [bo_f h]; simp [h]; decide
theorem bo_g {α : Type} (p : Prop) [Decidable p] {d : Decidable (I (bo p) = I 0 ∨ I (bo p) = I 1)} (k : Option α) : @gd α (I (bo p) = I 0 ∨ I (bo p) = I 1) d k = k := by
  apply gd_pos
  by_cases h : p
  · exact .inr (by rw [bo_t h])
  · exact .inl (by rw [bo_f h])
theorem bo_c {p q : Prop} [Decidable p] [Decidable q] (h : p ↔ q) : bo p = bo q := by
  by_cases g : p
  · rw [bo_t g, bo_t (h.1 g)]
  · rw [bo_f g, bo_f (fun t => g (h.2 t))]
theorem gd_0 {α : Type} {d : Decidable (I 0 = I 0 ∨ I 0 = I 1)} (k : Option α) : @gd α (I 0 = I 0 ∨ I 0 = I 1) d k = k := gd_pos (.inl rfl)
theorem gd_1 {α : Type} {d : Decidable (I 1 = I 0 ∨ I 1 = I 1)} (k : Option α) : @gd α (I 1 = I 0 ∨ I 1 = I 1) d k = k := gd_pos (.inr rfl)
theorem m_in (N : Nat) {a b c : Int} (h1 : -9223372036854775808 ≤ a) (h2 : a < 9223372036854775808) (h3 : -9223372036854775808 ≤ b) (h4 : b < 9223372036854775808) (h5 : -9223372036854775808 ≤ c) (h6 : c < 9223372036854775808) : mM_in N (Lg a) (Lg b) (Lg c) = some (I (bo (b ≤ a ∧ a ≤ c))) := by
  rw [mM_in_L N h1 h2 h3 h4 h5 h6]
  unfold bo
  split <;> rfl
theorem m_isIslet (N : Nat) {z : Int} (h1 : -2147483648 ≤ z) (h2 : z < 2147483648) : mM_isIslet N (I z) = some (I (bo (0 ≤ z ∧ z < 8))) := by
  unfold mM_isIslet
  simp (disch := omega) only [I_64, Lg_lit, m_in, Option.bind_some, I_lit, bo_g]
  rw [bo_c (show (0 ≤ z ∧ z ≤ 7) ↔ (0 ≤ z ∧ z < 8) by omega)]
  exact bo_g _ _
theorem m_isMinute (N : Nat) {z : Int} (h1 : -2147483648 ≤ z) (h2 : z < 2147483648) : mM_isMinute N (I z) = some (I (bo (0 ≤ z ∧ z ≤ 999))) := by
  unfold mM_isMinute
  simp (disch := omega) only [I_64, Lg_lit, m_in, Option.bind_some, I_lit, bo_g]
  exact bo_g _ _
theorem m_isCarrier (N : Nat) {y z : Int} (h1 : -2147483648 ≤ z) (h2 : z < 2147483648) (h3 : -2147483648 ≤ y) (h4 : y < 2147483648) : mM_isCarrier N (I y) (I z) = some (I (bo ((1 ≤ y ∧ y ≤ 9) ∧ 1 ≤ z ∧ z ≤ 9))) := by
  unfold mM_isCarrier mM_isCarrier_28 mM_isCarrier_29
  simp (disch := omega) only [I_64, Lg_lit, m_in, Option.bind_some, I_lit, bo_0, gd_0, gd_1]
  unfold bo
  (repeat' split) <;> first | rfl | (exfalso; omega)
theorem x_isIslet (N : Nat) {z : Int} (h1 : -2147483648 ≤ z) (h2 : z < 2147483648) : mX10_isIslet N (I z) = some (I (bo (0 ≤ z ∧ z < 8))) := by
  unfold mX10_isIslet mX10_isIslet_14 mX10_isIslet_15
  simp (disch := omega) only [I_lit, I_lt, I_le, gd_0, gd_1]
  unfold bo
  (repeat' split) <;> first | rfl | (exfalso; omega)
theorem x_isMinute (N : Nat) {z : Int} (h1 : -2147483648 ≤ z) (h2 : z < 2147483648) : mX10_isMinute N (I z) = some (I (bo (0 ≤ z ∧ z ≤ 999))) := by
  unfold mX10_isMinute mX10_isMinute_15 mX10_isMinute_16
  simp (disch := omega) only [I_lit, I_lt, I_le, gd_0, gd_1]
  unfold bo
  (repeat' split) <;> first | rfl | (exfalso; omega)
theorem x_isManyStarts (N : Nat) {z : Int} (h1 : -2147483648 ≤ z) (h2 : z < 2147483648) : mX10_isManyStarts N (I z) = some (I (bo (1 ≤ z ∧ z ≤ 60))) := by
  unfold mX10_isManyStarts mX10_isManyStarts_15 mX10_isManyStarts_16
  simp (disch := omega) only [I_lit, I_lt, I_le, gd_0, gd_1]
  unfold bo
  (repeat' split) <;> first | rfl | (exfalso; omega)
theorem x_isCarrier (N : Nat) {y z : Int} (h1 : -2147483648 ≤ z) (h2 : z < 2147483648) (h3 : -2147483648 ≤ y) (h4 : y < 2147483648) : mX10_isCarrier N (I y) (I z) = some (I (bo ((1 ≤ y ∧ y ≤ 9) ∧ 1 ≤ z ∧ z ≤ 9))) := by
  unfold mX10_isCarrier mX10_isCarrier_26 mX10_isCarrier_27
  simp (disch := omega) only [I_lit, I_lt, I_le, gd_0, gd_1]
  unfold bo
  (repeat' split) <;> first | rfl | (exfalso; omega)
theorem m_isBridge (N : Nat) {v : MSt} {n z : Int} (hn : v.1 4 = I n) (hn1 : 0 ≤ n) (hn2 : n ≤ 10) (h1 : -2147483648 ≤ z) (h2 : z < 2147483648) : mM_isBridge N v (I z) = some (I (bo (0 ≤ z ∧ z < n))) := by
  unfold mM_isBridge
  rw [hn]
  simp (disch := omega) only [I_lit, I_sub, I_64, Lg_lit, m_in, Option.bind_some, bo_g]
  rw [bo_c (show (0 ≤ z ∧ z ≤ n - 1) ↔ (0 ≤ z ∧ z < n) by omega)]
  exact bo_g _ _
theorem x_isBridge (N : Nat) {u : USt} {n z : Int} (hn : u.1 10 = I n) (hn1 : 0 ≤ n) (hn2 : n ≤ 10) (h1 : -2147483648 ≤ z) (h2 : z < 2147483648) : mX10_isBridge N u (I z) = some (I (bo (0 ≤ z ∧ z < n))) := by
  unfold mX10_isBridge mX10_isBridge_19 mX10_isBridge_20 mJx4a65c_size_8abf5
  rw [hn]
  simp (disch := omega) only [I_lit, I_lt, I_le, gd_0, gd_1, Option.bind_some]
  unfold bo
  (repeat' split) <;> first | rfl | (exfalso; omega)
/-- the class's bridges -/
def Xst (u : USt) (b : BSt) (rw : Int → Int) (n fr : Int) : Prop := u.1 10 = I n ∧ 0 ≤ n ∧ n ≤ 10 ∧ u.1 19 = I fr ∧ (fr = 0 ∨ fr = 1) ∧ (b = none → n = 0) ∧ (∀ x, b = some x → (x.2.1 : Int) = n) ∧ ∀ k : Int, 0 ≤ k → k < n → XB b k.toNat (rowk rw k)
theorem x_get (N : Nat) {u : USt} {b : BSt} {rw : Int → Int} {n fr k : Int} (h : Xst u b rw n fr) (h1 : 0 ≤ k) (h2 : k < n) : mJx4a65c_get_915e3 N u b (I k) = some k.toNat := by
  obtain ⟨hn, hn1, hn2, -, -, hb0, hb1, hb⟩ := h
  unfold mJx4a65c_get_915e3 mJ15_checkIndex_7cf53 mJ3_checkIndex_8e157 mJx4a65c_elementData_915e3
  rw [hn]
  simp (disch := omega) only [I_lit, I_lt]
  rw [if_neg (by omega), if_pos (by omega)]
  cases b with
  | none => have := hb0 rfl; omega
  | some x =>
    have hx := hb1 x rfl
    unfold bget
    simp (disch := omega) only [I_toInt, I_clamp, Option.bind_some]
    rw [if_pos (by omega)]
    rfl
theorem x_size (N : Nat) {u : USt} {b : BSt} {rw : Int → Int} {n fr : Int} (h : Xst u b rw n fr) : mJx4a65c_size_8abf5 N u = some (I n) := by
  unfold mJx4a65c_size_8abf5
  rw [h.1]
