/-- an int by its value -/
def I (z : Int) : Int32 := Int32.ofInt z
theorem I_add (a b : Int) : I a + I b = I (a + b) := (Int32.ofInt_add a b).symm
theorem I_sub (a b : Int) : I a - I b = I (a - b) := (Int32.ofInt_sub a b).symm
theorem I_mul (a b : Int) : I a * I b = I (a * b) := (Int32.ofInt_mul a b).symm
theorem I_neg (a : Int) : -I a = I (-a) := (Int32.ofInt_neg a).symm
theorem I_lit (n : Nat) : (OfNat.ofNat n : Int32) = I (OfNat.ofNat n) := rfl
theorem I_nat (n : Nat) : nI n = I n := rfl
theorem I_toInt {z : Int} (h1 : -2147483648 ≤ z) (h2 : z < 2147483648) : (I z).toInt = z := by
  unfold I
  rw [Int32.toInt_ofInt, show Int32.size = 4294967296 from rfl]
  exact Int.bmod_eq_of_le (by omega) (by omega)
theorem I_of (x : Int32) : x = I x.toInt := (Int32.ofInt_toInt x).symm
theorem I_rng (x : Int32) : -2147483648 ≤ x.toInt ∧ x.toInt < 2147483648 := ⟨Int32.le_toInt x, Int32.toInt_lt x⟩
theorem I_ex (x : Int32) : ∃ z : Int, x = I z ∧ -2147483648 ≤ z ∧ z < 2147483648 := ⟨x.toInt, I_of x, I_rng x⟩
theorem I_lt {a b : Int} (h1 : -2147483648 ≤ a) (h2 : a < 2147483648) (h3 : -2147483648 ≤ b) (h4 : b < 2147483648) : (I a < I b) = (a < b) := by
  rw [Int32.lt_iff_toInt_lt, I_toInt h1 h2, I_toInt h3 h4]
theorem I_le {a b : Int} (h1 : -2147483648 ≤ a) (h2 : a < 2147483648) (h3 : -2147483648 ≤ b) (h4 : b < 2147483648) : (I a ≤ I b) = (a ≤ b) := by
  rw [Int32.le_iff_toInt_le, I_toInt h1 h2, I_toInt h3 h4]
theorem I_eq {a b : Int} (h1 : -2147483648 ≤ a) (h2 : a < 2147483648) (h3 : -2147483648 ≤ b) (h4 : b < 2147483648) : (I a = I b) = (a = b) := by
  rw [← Int32.toInt_inj, I_toInt h1 h2, I_toInt h3 h4]
theorem I_tdiv {a b : Int} (h1 : -2147483648 < a) (h2 : a < 2147483648) (h3 : 0 < b) (h4 : b < 2147483648) : I a / I b = I (a.tdiv b) := by
  apply Int32.toInt_inj.mp
  rw [Int32.toInt_div, I_toInt (by omega) h2, I_toInt (by omega) h4]
  have e1 : (a.tdiv b).natAbs ≤ a.natAbs := Int.natAbs_tdiv_le_natAbs a b
  rw [Int.bmod_eq_of_le (by omega) (by omega), I_toInt (by omega) (by omega)]
theorem I_div {a b : Int} (h1 : 0 ≤ a) (h2 : a < 2147483648) (h3 : 0 < b) (h4 : b < 2147483648) : I a / I b = I (a / b) := by
  rw [I_tdiv (by omega) h2 h3 h4, Int.tdiv_eq_ediv_of_nonneg h1]
theorem I_rem {a b : Int} (h1 : 0 ≤ a) (h2 : a < 2147483648) (h3 : 0 < b) (h4 : b < 2147483648) : I a - I a / I b * I b = I (a % b) := by
  rw [I_div h1 h2 h3 h4, I_mul, I_sub]
  congr 1
  have := Int.mul_ediv_add_emod a b
  rw [Int.mul_comm (a / b) b]
  omega
theorem I_clamp {z : Int} (h1 : -2147483648 ≤ z) (h2 : z < 2147483648) : (I z).toNatClampNeg = z.toNat := by
  show (I z).toInt.toNat = z.toNat
  rw [I_toInt h1 h2]
theorem rd_I {α : Type} {f : Nat → Int32} {n : Nat} {z : Int} {k : Int32 → Option α} (h1 : 0 ≤ z) (h2 : z < n) (h3 : z < 2147483648) : rd f n (I z) k = k (f z.toNat) := by
  unfold rd
  rw [I_toInt (by omega) h3, if_pos ⟨h1, h2⟩, I_clamp (by omega) h3]
theorem wr_I {α : Type} {n : Nat} {z : Int} {k : Nat → Option α} (h1 : 0 ≤ z) (h2 : z < n) (h3 : z < 2147483648) : wr n (I z) k = k z.toNat := by
  unfold wr
  rw [I_toInt (by omega) h3, if_pos ⟨h1, h2⟩, I_clamp (by omega) h3]
theorem rdX_I {α : Type} {u : USt} {a : Nat} {z : Int} {k : Int32 → Option α} (ha : okA a = true) (h1 : 0 ≤ z) (h2 : z < lenX a) (h3 : z < 2147483648) : rdX u a (I z) k = k (u.2 a z.toNat) := by
  unfold rdX
  rw [I_toInt (by omega) h3, if_pos ⟨ha, h1, h2⟩, I_clamp (by omega) h3]
theorem wrX_I {α : Type} {a : Nat} {z : Int} {k : Nat → Option α} (ha : okA a = true) (h1 : 0 ≤ z) (h2 : z < lenX a) (h3 : z < 2147483648) : wrX a (I z) k = k z.toNat := by
  unfold wrX
  rw [I_toInt (by omega) h3, if_pos ⟨ha, h1, h2⟩, I_clamp (by omega) h3]
theorem gd_pos {α : Type} {c : Prop} [Decidable c] {k : Option α} (h : c) : gd c k = k := if_pos h
/-- a long by its value -/
def Lg (z : Int) : Int64 := Int64.ofInt z
theorem Lg_toInt {z : Int} (h1 : -9223372036854775808 ≤ z) (h2 : z < 9223372036854775808) : (Lg z).toInt = z := by
  unfold Lg
  rw [Int64.toInt_ofInt, show Int64.size = 18446744073709551616 from rfl]
  exact Int.bmod_eq_of_le (by omega) (by omega)
theorem Lg_lit (n : Nat) : (OfNat.ofNat n : Int64) = Lg (OfNat.ofNat n) := rfl
theorem I_64 {z : Int} (h1 : -2147483648 ≤ z) (h2 : z < 2147483648) : (I z).toInt64 = Lg z := by
  apply Int64.toInt_inj.mp
  rw [Int32.toInt_toInt64, I_toInt h1 h2, Lg_toInt (by omega) (by omega)]
theorem Lg_cmp {a b : Int} (h1 : -9223372036854775808 ≤ a) (h2 : a < 9223372036854775808) (h3 : -9223372036854775808 ≤ b) (h4 : b < 9223372036854775808) : lg_cmp (Lg a) (Lg b) = if b < a then 1 else if a = b then 0 else -1 := by
  have e1 : (Lg a > Lg b) = (b < a) := by rw [gt_iff_lt, Int64.lt_iff_toInt_lt, Lg_toInt h1 h2, Lg_toInt h3 h4]
  have e2 : (Lg a = Lg b) = (a = b) := by rw [← Int64.toInt_inj, Lg_toInt h1 h2, Lg_toInt h3 h4]
  unfold lg_cmp
  simp only [e1, e2]
theorem Lg_cmp_lt {a b : Int} (h1 : -9223372036854775808 ≤ a) (h2 : a < 9223372036854775808) (h3 : -9223372036854775808 ≤ b) (h4 : b < 9223372036854775808) : (lg_cmp (Lg a) (Lg b) < 0) = (a < b) := by
  rw [Lg_cmp h1 h2 h3 h4]
  by_cases q1 : b < a
  · rw [if_pos q1]
    simp only [eq_iff_iff]
    exact ⟨fun h => absurd h (by decide), fun h => absurd h (by omega)⟩
  · by_cases q2 : a = b
    · rw [if_neg q1, if_pos q2]
      simp only [eq_iff_iff]
      exact ⟨fun h => absurd h (by decide), fun h => absurd h (by omega)⟩
    · rw [if_neg q1, if_neg q2]
      simp only [eq_iff_iff]
      exact ⟨fun _ => by omega, fun _ => by decide⟩
theorem Lg_cmp_gt {a b : Int} (h1 : -9223372036854775808 ≤ a) (h2 : a < 9223372036854775808) (h3 : -9223372036854775808 ≤ b) (h4 : b < 9223372036854775808) : (0 < lg_cmp (Lg a) (Lg b)) = (b < a) := by
  rw [Lg_cmp h1 h2 h3 h4]
  by_cases q1 : b < a
  · rw [if_pos q1]
    simp only [eq_iff_iff]
    exact ⟨fun _ => q1, fun _ => by decide⟩
  · by_cases q2 : a = b
    · rw [if_neg q1, if_pos q2]
      simp only [eq_iff_iff]
      exact ⟨fun h => absurd h (by decide), fun h => absurd h (by omega)⟩
    · rw [if_neg q1, if_neg q2]
      simp only [eq_iff_iff]
      exact ⟨fun h => absurd h (by decide), fun h => absurd h (by omega)⟩
/-- the reference's in(v, low, high) -/
theorem mM_in_L (N : Nat) {a b c : Int} (h1 : -9223372036854775808 ≤ a) (h2 : a < 9223372036854775808) (h3 : -9223372036854775808 ≤ b) (h4 : b < 9223372036854775808) (h5 : -9223372036854775808 ≤ c) (h6 : c < 9223372036854775808) : mM_in N (Lg a) (Lg b) (Lg c) = some (if b ≤ a ∧ a ≤ c then 1 else 0) := by
  unfold mM_in mM_in_17 mM_in_18
  simp only [Lg_cmp_lt h1 h2 h3 h4, Lg_cmp_gt h1 h2 h5 h6]
  by_cases q1 : a < b
  · rw [if_pos q1, if_neg (by omega)]
    rfl
  · rw [if_neg q1]
    by_cases q2 : c < a
    · rw [if_pos q2, if_neg (by omega)]
      rfl
    · rw [if_neg q2, if_pos (by omega)]
      rfl
