theorem Lg_mul (a b : Int) : Lg a * Lg b = Lg (a * b) := (Int64.ofInt_mul a b).symm
theorem Lg_sub (a b : Int) : Lg a - Lg b = Lg (a - b) := (Int64.ofInt_sub a b).symm
theorem Lg_add (a b : Int) : Lg a + Lg b = Lg (a + b) := (Int64.ofInt_add a b).symm
theorem Lg_div {a b : Int} (h1 : 0 ≤ a) (h2 : a < 9223372036854775808) (h3 : 0 < b) (h4 : b < 9223372036854775808) : Lg a / Lg b = Lg (a / b) := by
  apply Int64.toInt_inj.mp
  rw [Int64.toInt_div, Lg_toInt (by omega) h2, Lg_toInt (by omega) h4]
  have e1 : (a.tdiv b).natAbs ≤ a.natAbs := Int.natAbs_tdiv_le_natAbs a b
  have e2 : a.tdiv b = a / b := Int.tdiv_eq_ediv_of_nonneg h1
  rw [Int.bmod_eq_of_le (by omega) (by omega), e2, Lg_toInt (by omega) (by omega)]
theorem Lg_eq {a b : Int} (h1 : -9223372036854775808 ≤ a) (h2 : a < 9223372036854775808) (h3 : -9223372036854775808 ≤ b) (h4 : b < 9223372036854775808) : (Lg a = Lg b) = (a = b) := by
  rw [← Int64.toInt_inj, Lg_toInt h1 h2, Lg_toInt h3 h4]
theorem Lg_rem {a b : Nat} (h2 : a < 9223372036854775808) (h3 : 0 < b) (h4 : b < 9223372036854775808) : Lg a - Lg a / Lg b * Lg b = Lg ((a % b : Nat) : Int) := by
  rw [Lg_div (by omega) (by omega) (by omega) (by omega), Lg_mul, Lg_sub, int_rem]
  rfl
theorem cmp_z {a : Nat} (h2 : a < 9223372036854775808) : (lg_cmp (Lg (a : Int)) 0 = 0) = (a = 0) := by
  rw [show (0 : Int64) = Lg 0 from rfl, Lg_cmp (by omega) (by omega) (by omega) (by omega)]
  by_cases q : a = 0
  · subst q
    simp
  · rw [if_pos (by omega)]
    simp only [eq_iff_iff]
    exact ⟨fun h => absurd h (by decide), fun h => absurd h q⟩
theorem Lg_ne {a : Nat} (h2 : a < 9223372036854775808) (h : 0 < a) : ¬ Lg (a : Int) = 0 := by
  rw [show (0 : Int64) = Lg 0 from rfl, Lg_eq (by omega) (by omega) (by omega) (by omega)]
  omega
theorem x_gcd (N : Nat) : ∀ (k f a b : Nat) (s : Int), b < 2 ^ k → 0 ≤ s → s + 2 * k ≤ 100 → 2 * k < f → a < 9223372036854775808 → b < 9223372036854775808 → mX10_sharedDivisor_h3 N f (Lg a) (Lg b) (I s) = some (Lg (Nat.gcd a b : Nat)) := by
  intro k
  have Z : ∀ (f a : Nat) (s : Int), 0 < f → mX10_sharedDivisor_h3 N f (Lg a) (Lg ((0 : Nat) : Int)) (I s) = some (Lg (Nat.gcd a 0 : Nat)) := by
    intro f a s hf
    obtain ⟨f, rfl⟩ : ∃ g, f = g + 1 := ⟨f - 1, by omega⟩
    show mX10_sharedDivisor_3 N _ _ _ _ = _
    unfold mX10_sharedDivisor_3 mX10_sharedDivisor_32
    rw [Nat.gcd_zero_right]
    split
    · rfl
    · rw [if_pos (by rw [cmp_z (by omega)])]
  have S : ∀ (f a b : Nat) (s : Int), 0 < b → 0 ≤ s → s < 100 → a < 9223372036854775808 → b < 9223372036854775808 → mX10_sharedDivisor_h3 N (f + 1) (Lg a) (Lg b) (I s) = mX10_sharedDivisor_h3 N f (Lg b) (Lg ((a % b : Nat) : Int)) (I (s + 1)) := by
    intro f a b s hb s0 s1 ha hb2
    show mX10_sharedDivisor_3 N _ _ _ _ = _
    unfold mX10_sharedDivisor_3
    rw [show (100 : Int32) = I 100 from rfl, if_neg (by rw [I_le (by omega) (by omega) (by omega) (by omega)]; omega), if_neg (by rw [cmp_z hb2]; omega), gd_pos (Lg_ne hb2 hb)]
    unfold nm
    rw [Lg_rem ha hb hb2, show (1 : Int32) = I 1 from rfl, I_add]
  induction k with
  | zero =>
    intro f a b s hb s0 s1 hf ha hb2
    have : b = 0 := by omega
    subst this
    exact Z f a s (by omega)
  | succ k ih =>
    intro f a b s hb s0 s1 hf ha hb2
    by_cases q : b = 0
    · subst q
      exact Z f a s (by omega)
    · obtain ⟨f, rfl⟩ : ∃ g, f = g + 2 := ⟨f - 2, by omega⟩
      have hr := Nat.mod_lt a (show 0 < b by omega)
      have e1 : Nat.gcd a b = Nat.gcd b (a % b) := by
        rw [Nat.gcd_comm a b, Nat.gcd_rec, Nat.gcd_comm]
      rw [S (f + 1) a b s (by omega) s0 (by omega) ha hb2]
      by_cases q2 : a % b = 0
      · rw [e1, q2]
        exact Z (f + 1) b (s + 1) (by omega)
      · have e2 : Nat.gcd b (a % b) = Nat.gcd (a % b) (b % (a % b)) := by
          rw [Nat.gcd_comm b, Nat.gcd_rec, Nat.gcd_comm]
        have hr2 := Nat.mod_lt b (show 0 < a % b by omega)
        have hr3 : b % (a % b) < 2 ^ k := by
          have h1 := Nat.div_add_mod b (a % b)
          have h2 : 1 ≤ b / (a % b) := (Nat.one_le_div_iff (by omega)).mpr (by omega)
          have h3 : (a % b) * 1 ≤ (a % b) * (b / (a % b)) := Nat.mul_le_mul_left _ h2
          have h4 : 2 ^ (k + 1) = 2 ^ k * 2 := Nat.pow_succ 2 k
          omega
        rw [S f b (a % b) (s + 1) (by omega) (by omega) (by omega) hb2 (by omega), e1, e2]
        exact ih f (a % b) (b % (a % b)) (s + 1 + 1) hr3 (by omega) (by omega) (by omega) (by omega) (by omega)
theorem m_gcd (N : Nat) : ∀ (x f y : Nat), x < f → x < 9223372036854775808 → y < 9223372036854775808 → mM_common_h6 N f (Lg x) (Lg y) = some (Lg (Nat.gcd x y : Nat)) := by
  intro x
  induction x using Nat.strongRecOn with
  | _ x ih =>
    intro f y hf hx hy
    obtain ⟨f, rfl⟩ : ∃ g, f = g + 1 := ⟨f - 1, by omega⟩
    show mM_common_6 N _ _ _ = _
    unfold mM_common_6
    by_cases q : x = 0
    · subst q
      rw [if_pos (by rw [cmp_z (by omega)]), Nat.gcd_zero_left]
    · have hr := Nat.mod_lt y (show 0 < x by omega)
      rw [if_neg (by rw [cmp_z hx]; exact q), gd_pos (Lg_ne hx (by omega))]
      unfold nm
      rw [Lg_rem hy (by omega) hx]
      dsimp only
      rw [ih (y % x) hr f x (by omega) (by omega) hx, ← Nat.gcd_rec]
theorem m_common (N : Nat) {x y : Nat} (hx : x < 9223372036854775808) (hy : y + 1 < N) (hy2 : y < 9223372036854775808) : mM_common N (Lg x) (Lg y) = some (Lg (Nat.gcd x y : Nat)) := by
  unfold mM_common
  have key : ∀ M f, N = f + 1 → mM_common_h6 M (f + 1) (Lg x) (Lg y) = some (Lg (Nat.gcd x y : Nat)) := by
    intro M f hN
    show mM_common_6 M _ _ _ = _
    unfold mM_common_6
    by_cases q : x = 0
    · subst q
      rw [if_pos (by rw [cmp_z (by omega)]), Nat.gcd_zero_left]
    · have hr := Nat.mod_lt y (show 0 < x by omega)
      have hr2 := Nat.mod_le y x
      rw [if_neg (by rw [cmp_z hx]; exact q), gd_pos (Lg_ne hx (by omega))]
      unfold nm
      rw [Lg_rem hy2 (by omega) hx]
      dsimp only
      rw [m_gcd M (y % x) f x (by omega) (by omega) hx, ← Nat.gcd_rec]
  have e : N = (N - 1) + 1 := by omega
  have := key N (N - 1) e
  rw [← e] at this
  exact this
/-- all that turns comes again so -/
def agn (fr : Int) (rw : Int → Int) : Nat → Int → Nat → Nat
  | 0, _, a => a
  | d + 1, j, a => agn fr rw d (j + 1) (a / Nat.gcd a (rnd fr (rowk rw j)).toNat * (rnd fr (rowk rw j)).toNat)
def agL : Nat := 963761198400
theorem plc_dvd : ∀ p : Nat, p ≤ 27 → 2 ≤ p → p ∣ 80313433200 := by decide
theorem rnd_dvd {fr : Int} {r : Int → Int} (h : Rv r) : (rnd fr r).toNat ∣ agL := by
  have h1 := plc_b (fr := fr) h
  have h2 := pls_b h
  unfold rnd
  split
  · exact Nat.one_dvd _
  · obtain ⟨p, hp⟩ := plc_dvd (plc fr r).toNat (by omega) (by omega)
    obtain ⟨s, hs⟩ : ∃ s, 12 = (pls r).toNat * s := by
      rcases (show pls r = 1 ∨ pls r = 2 ∨ pls r = 3 ∨ pls r = 4 by omega) with q | q | q | q <;> rw [q]
      · exact ⟨12, rfl⟩
      · exact ⟨6, rfl⟩
      · exact ⟨4, rfl⟩
      · exact ⟨3, rfl⟩
    refine ⟨s * p, ?_⟩
    rw [Int.toNat_mul (by omega) (by omega)]
    unfold agL
    rw [show (963761198400 : Nat) = 12 * 80313433200 from rfl, hp, hs, Nat.mul_assoc, Nat.mul_assoc, Nat.mul_left_comm s]
theorem agn_step {a r : Nat} (ha : a ∣ agL) (hr : r ∣ agL) : a / Nat.gcd a r * r ∣ agL := by
  have h1 : a / Nat.gcd a r * r = Nat.lcm a r := by
    unfold Nat.lcm
    rw [Nat.mul_comm a r, Nat.mul_div_assoc r (Nat.gcd_dvd_left a r), Nat.mul_comm]
  rw [h1]
  exact Nat.lcm_dvd ha hr
theorem x_again {u : USt} {b : BSt} {rw : Int → Int} {n fr : Int} (h : Xst u b rw n fr) : ∀ (d f a : Nat) (j : Int), d < f → (d : Int) = n - j → 0 ≤ j → a ∣ agL → mX10_again_h4 NF u b f (Lg a) (I j) = some (Lg (agn fr rw d j a : Nat)) := by
  have h2 := h.2.2.1
  have h4 := h.2.2.2.1
  have h5 := h.2.2.2.2.1
  have hN := NF_big
  intro d
  induction d with
  | zero =>
    intro f a j hf hd hj ha
    obtain ⟨f, rfl⟩ : ∃ g, f = g + 1 := ⟨f - 1, by omega⟩
    show mX10_again_4 NF u b _ _ _ = _
    unfold mX10_again_4
    rw [x_size NF h, Option.bind_some]
    simp (disch := omega) only [I_le]
    rw [if_pos (by omega)]
    rfl
  | succ d ih =>
    intro f a j hf hd hj ha
    obtain ⟨f, rfl⟩ : ∃ g, f = g + 1 := ⟨f - 1, by omega⟩
    have hb := h.row hj (by omega)
    have hr := rnd_b (fr := fr) hb.rv
    have hL : a ≤ 963761198400 := Nat.le_of_dvd (by decide) ha
    have hst := agn_step ha (rnd_dvd (fr := fr) hb.rv)
    have hL2 := Nat.le_of_dvd (show 0 < agL by decide) hst
    unfold agL at hL2
    show mX10_again_4 NF u b _ _ _ = _
    unfold mX10_again_4 mX10_again_59 mX10_sharedDivisor nm
    rw [x_size NF h, Option.bind_some, x_get NF h hj (by omega), Option.bind_some, hb.skip, h4, xround NF hb h5, Option.bind_some]
    simp (disch := omega) only [I_le]
    rw [if_neg (by omega)]
    obtain ⟨q, hq⟩ : ∃ q : Nat, rnd fr (rowk rw j) = q := ⟨(rnd fr (rowk rw j)).toNat, by omega⟩
    have hqn : (rnd fr (rowk rw j)).toNat = q := by omega
    rw [hqn] at hst hL2
    have ha0 : 0 < a := Nat.pos_of_dvd_of_pos ha (by decide)
    have hg : 0 < Nat.gcd a q := Nat.gcd_pos_of_pos_left _ ha0
    have hg2 : Nat.gcd a q ≤ a := Nat.gcd_le_left _ ha0
    rw [I_64 (by omega) (by omega), hq, show (0 : Int32) = I 0 from rfl, x_gcd NF 7 NF a q 0 (by omega) (by omega) (by omega) (by omega) (by omega) (by omega), Option.bind_some]
    have ec : ¬ lg_cmp (Lg (Nat.gcd a q : Nat)) 0 ≤ I 0 := by
      rw [show (0 : Int64) = Lg 0 from rfl, Lg_cmp (by omega) (by omega) (by omega) (by omega), if_pos (by omega)]
      decide
    rw [if_neg ec, gd_pos (Lg_ne (by omega) hg), Lg_div (by omega) (by omega) (by omega) (by omega), Lg_mul, show (1 : Int32) = I 1 from rfl, I_add]
    have := ih f (a / Nat.gcd a q * q) (j + 1) (by omega) (by omega) (by omega) hst
    have e : agn fr rw (d + 1) j a = agn fr rw d (j + 1) (a / Nat.gcd a (rnd fr (rowk rw j)).toNat * (rnd fr (rowk rw j)).toNat) := rfl
    rw [e, hqn, ← this]
    rfl
theorem m_again {v : MSt} {rw : Int → Int} {n fr wo sk se : Int} (h : Mst v rw n fr wo sk se) : ∀ (d f a : Nat) (j : Int), d < f → (d : Int) = n - j → 0 ≤ j → a ∣ agL → mM_againOf_h4 NF v f (Lg a) (I j) = some (Lg (agn fr rw d j a : Nat)) := by
  obtain ⟨hr, hf, hf2, hn, hn1, hn2, hwo, hsk, hse, hwo2, hsk2, hse2, hv⟩ := h
  have hN := NF_big
  intro d
  induction d with
  | zero =>
    intro f a j hf hd hj ha
    obtain ⟨f, rfl⟩ : ∃ g, f = g + 1 := ⟨f - 1, by omega⟩
    show mM_againOf_4 NF v _ _ _ = _
    unfold mM_againOf_4
    rw [hn]
    simp (disch := omega) only [I_le]
    rw [if_pos (by omega)]
    rfl
  | succ d ih =>
    intro f a j hf' hd hj ha
    obtain ⟨f, rfl⟩ : ∃ g, f = g + 1 := ⟨f - 1, by omega⟩
    have hb := hv j hj (by omega)
    have hrb := rnd_b (fr := fr) hb
    have hL : a ≤ 963761198400 := Nat.le_of_dvd (by decide) ha
    have hst := agn_step ha (rnd_dvd (fr := fr) hb)
    have hL2 := Nat.le_of_dvd (show 0 < agL by decide) hst
    unfold agL at hL2
    show mM_againOf_4 NF v _ _ _ = _
    unfold mM_againOf_4 nm
    rw [hn, mM_roundOf_I NF hr hf hf2 hj (by omega) hb, Option.bind_some]
    simp (disch := omega) only [I_le]
    rw [if_neg (by omega)]
    obtain ⟨q, hq⟩ : ∃ q : Nat, rnd fr (rowk rw j) = q := ⟨(rnd fr (rowk rw j)).toNat, by omega⟩
    have hqn : (rnd fr (rowk rw j)).toNat = q := by omega
    rw [hqn] at hst hL2
    have ha0 : 0 < a := Nat.pos_of_dvd_of_pos ha (by decide)
    have hg : 0 < Nat.gcd a q := Nat.gcd_pos_of_pos_left _ ha0
    have hg2 : Nat.gcd a q ≤ a := Nat.gcd_le_left _ ha0
    rw [I_64 (by omega) (by omega), hq, m_common NF (by omega) (by omega) (by omega), Option.bind_some, gd_pos (Lg_ne (by omega) hg), Option.bind_some, I_64 (by omega) (by omega), Lg_div (by omega) (by omega) (by omega) (by omega), Lg_mul, show (1 : Int32) = I 1 from rfl, I_add]
    have := ih f (a / Nat.gcd a q * q) (j + 1) (by omega) (by omega) (by omega) hst
    have e : agn fr rw (d + 1) j a = agn fr rw d (j + 1) (a / Nat.gcd a (rnd fr (rowk rw j)).toNat * (rnd fr (rowk rw j)).toNat) := rfl
    rw [e, hqn, ← this]
    rfl
theorem again_of {u : USt} {b : BSt} {v : MSt} {rw : Int → Int} {n fr wo sk se : Int} (hX : Xst u b rw n fr) (hM : Mst v rw n fr wo sk se) : ∃ r : Int64, mX10_again NF u b = some r ∧ mM_againOf NF v = some r := by
  have hN := NF_big
  have h1 := hX.2.1
  have h2 := hX.2.2.1
  refine ⟨Lg (agn fr rw n.toNat 0 1 : Nat), ?_, ?_⟩
  · exact x_again hX n.toNat NF 1 0 (by omega) (by omega) (by omega) (Nat.one_dvd _)
  · exact m_again hM n.toNat NF 1 0 (by omega) (by omega) (by omega) (Nat.one_dvd _)
theorem pu_again : Pu_again InvX := by
  intro u b v h
  have hh := h
  obtain ⟨n, rw, fr, se, hX, hM, hs, hP, hN, hG⟩ := h
  obtain ⟨r, e1, e2⟩ := again_of hX hM
  refine ⟨r, e1, ?_, hh⟩
  unfold mM_again
  rw [e2]
  rfl
