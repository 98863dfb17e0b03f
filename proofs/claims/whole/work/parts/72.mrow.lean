theorem I_trem {a b : Int} (h1 : -2147483648 < a) (h2 : a < 2147483648) (h3 : 0 < b) (h4 : b < 2147483648) : I a - I a / I b * I b = I (a.tmod b) := by
  rw [I_tdiv h1 h2 h3 h4, I_mul, I_sub]
  congr 1
  have := Int.mul_tdiv_add_tmod a b
  rw [Int.mul_comm (a.tdiv b) b]
  omega
theorem tmod_wrap {a b : Int} (hb : 0 < b) : (a.tmod b + b) % b = a % b := by
  rw [Int.add_emod_right, Int.tmod_def, Int.sub_mul_emod_self_left]
theorem tmod_b {a b : Int} (hb : 0 < b) : -b < a.tmod b ∧ a.tmod b < b := tmod_bounds hb
theorem mM_placesOf_I (N : Nat) {v : MSt} {rw : Int → Int} {k : Int} (hr : RowsM v rw) (h1 : 0 ≤ k) (h2 : k < 10) (hv : Rv (rowk rw k)) : mM_placesOf N v (I k) = some (I (pls (rowk rw k))) := by
  obtain ⟨g0, g1, g2, g3, g6, g7, g8, g9⟩ := hv
  unfold mM_placesOf mM_placesOf_38 mM_placesOf_39 pls
  unfold RowsM at hr
  unfold rowk at *
  simp only [Int.add_zero] at *
  simp (disch := omega) only [I_lit, I_mul, I_add, I_sub, rd_I, hr, I_eq, I_le]
  (repeat' split) <;> first | rfl | (exfalso; omega)
theorem mM_roundOf_I (N : Nat) {v : MSt} {rw : Int → Int} {fr k : Int} (hr : RowsM v rw) (hf : v.1 6 = I fr) (hf2 : fr = 0 ∨ fr = 1) (h1 : 0 ≤ k) (h2 : k < 10) (hv : Rv (rowk rw k)) : mM_roundOf N v (I k) = some (I (rnd fr (rowk rw k))) := by
  unfold mM_roundOf mM_roundOf_28 rnd
  rw [mM_placesOf_I N hr h1 h2 hv, mM_placeOf_I N hr hf hf2 h1 h2 hv]
  obtain ⟨g0, g1, g2, g3, g6, g7, g8, g9⟩ := hv
  have hr' := hr
  unfold RowsM at hr'
  have e0 : rowk rw k 0 = rw (10 * k) := by unfold rowk; rw [Int.add_zero]
  rw [e0] at g0 ⊢
  simp (disch := omega) only [I_lit, I_mul, I_add, rd_I, hr', I_eq, Option.bind_some]
  by_cases q1 : rw (10 * k) = 3 <;> simp [q1]
theorem mM_whereIn_I (N : Nat) {v : MSt} {rw : Int → Int} {fr k t : Int} (hr : RowsM v rw) (hf : v.1 6 = I fr) (hf2 : fr = 0 ∨ fr = 1) (h1 : 0 ≤ k) (h2 : k < 10) (hv : Rv (rowk rw k)) (ht : 0 ≤ t) (ht2 : t ≤ 100000) : mM_whereIn N v (I k) (I t) = some (I (whr fr (rowk rw k) t)) := by
  unfold mM_whereIn whr
  rw [mM_roundOf_I N hr hf hf2 h1 h2 hv]
  have hb := rnd_b (fr := fr) hv
  obtain ⟨g0, g1, g2, g3, g6, g7, g8, g9⟩ := hv
  generalize hR : rnd fr (rowk rw k) = R at *
  have hr' := hr
  unfold RowsM at hr'
  have e8 : rowk rw k 8 = rw (10 * k + 8) := rfl
  rw [e8] at g8 ⊢
  have hw := tmod_b (a := t + rw (10 * k + 8)) (b := R) (by omega)
  simp (disch := omega) only [I_lit, I_mul, I_add, rd_I, hr', I_eq, Option.bind_some, I_trem, gd]
  rw [if_pos (by omega), if_pos (by omega), Int.tmod_eq_emod_of_nonneg (by omega), tmod_wrap (by omega)]
theorem int_rem (a b : Int) : a - a / b * b = a % b := by
  have := Int.mul_ediv_add_emod a b
  rw [Int.mul_comm (a / b) b]
  omega
def jnW (wo sk se fr : Int) (r : Int → Int) (k t : Int) : Int := if k = wo then -1 else if k = sk then r (3 + se) else jn fr r t
def lsW (wo sk se fr : Int) (r : Int → Int) (k t : Int) : Int := if jnW wo sk se fr r k t = -1 then 0 else if k = sk ∨ r 0 = 3 then 999 else r 6 - whr fr r t % plc fr r
/-- the reference's state, as far as ways ask it -/
def Mst (v : MSt) (rw : Int → Int) (n fr wo sk se : Int) : Prop := RowsM v rw ∧ v.1 6 = I fr ∧ (fr = 0 ∨ fr = 1) ∧ v.1 4 = I n ∧ 0 ≤ n ∧ n ≤ 10 ∧ v.1 7 = I wo ∧ v.1 8 = I sk ∧ v.1 9 = I se ∧ (-1 ≤ wo ∧ wo < 10) ∧ (-1 ≤ sk ∧ sk < 10) ∧ (0 ≤ sk → 0 ≤ se ∧ se < rowk rw sk 2) ∧ ∀ k, 0 ≤ k → k < n → Rv (rowk rw k)
theorem mM_joinsNow_I (N : Nat) {v : MSt} {rw : Int → Int} {n fr wo sk se k t : Int} (hM : Mst v rw n fr wo sk se) (h1 : 0 ≤ k) (h2 : k < n) (ht : 0 ≤ t) (ht2 : t ≤ 100000) : mM_joinsNow N v (I k) (I t) = some (I (jnW wo sk se fr (rowk rw k) k t)) := by
  obtain ⟨hr, hf, hf2, hn, hn1, hn2, hwo, hsk, hse, hwo2, hsk2, hse2, hv⟩ := hM
  have hv := hv k h1 h2
  unfold mM_joinsNow mM_joinsNow_110 mM_joinsNow_152 jnW jn
  rw [mM_whereIn_I N hr hf hf2 h1 (by omega) hv ht ht2, mM_placeOf_I N hr hf hf2 h1 (by omega) hv]
  have hp := plc_b (fr := fr) hv
  have hw := whr_b (fr := fr) hv t
  have hrb := rnd_b (fr := fr) hv
  have hwp := fun q => whp_b (fr := fr) hv t q
  have hei := fun q => eix_b hv (hwp q).1 (hwp q).2
  obtain ⟨g0, g1, g2, g3, g6, g7, g8, g9⟩ := hv
  generalize plc fr (rowk rw k) = P at *
  generalize whr fr (rowk rw k) t = w at *
  have hr' := hr
  unfold RowsM at hr'
  have e0 : rowk rw k 0 = rw (10 * k) := by unfold rowk; rw [Int.add_zero]
  rw [hwo, hsk, hse]
  simp (disch := omega) only [I_neg, I_lit, I_mul, I_eq]
  by_cases q1 : k = wo
  · simp only [q1, not_true_eq_false, if_false, if_true]
  · by_cases q2 : k = sk
    · subst q2
      have hse3 := hse2 h1
      have e3 : rowk rw k (3 + se) = rw (10 * k + 3 + se) := by unfold rowk; rw [Int.add_assoc]
      simp only [q1, not_false_eq_true, not_true_eq_false, if_false, if_true, e3]
      simp (disch := omega) only [I_lit, I_mul, I_add, rd_I, hr']
    · simp only [q1, q2, not_false_eq_true, if_false, if_true]
      rw [e0] at g0 hwp hei ⊢
      simp (disch := omega) only [I_lit, I_mul, I_add, rd_I, hr', I_eq]
      by_cases q3 : rw (10 * k) = 3
      · simp only [q3, not_true_eq_false, if_false, if_true]
        rfl
      · have hwp := hwp q3
        have hei := hei q3
        have hm := Int.emod_nonneg w (show P ≠ 0 by omega)
        have hm2 := Int.emod_lt_of_pos w (show 0 < P by omega)
        have e2 : rowk rw k 2 = rw (10 * k + 2) := rfl
        have e6 : rowk rw k 6 = rw (10 * k + 6) := rfl
        rw [e2] at g2 hei
        rw [e6] at g6 ⊢
        simp only [q3, not_false_eq_true, if_false, if_true]
        have hdiv : w / P < 200 := by
          have : w / P ≤ w := Int.ediv_le_self _ hw.1
          omega
        unfold eix at *
        rw [e2] at hei ⊢
        have e3 : ∀ z, rowk rw k (3 + z) = rw (10 * k + 3 + z) := fun z => by unfold rowk; rw [Int.add_assoc]
        rw [e3]
        by_cases q4 : w / P < rw (10 * k + 2)
        · rw [if_pos q4] at hei ⊢
          simp (disch := omega) only [I_lit, I_mul, I_add, I_sub, I_neg, I_eq, Option.bind_some, I_div, int_rem, I_le, rd_I, hr', nm, gd, show ¬ P = 0 by omega, not_false_eq_true, if_true, show ¬ rw (10 * k + 2) ≤ w / P by omega, if_false]
          split <;> split <;> first | rfl | (exfalso; omega)
        · rw [if_neg q4] at hei ⊢
          simp (disch := omega) only [I_lit, I_mul, I_add, I_sub, I_neg, I_eq, Option.bind_some, I_div, int_rem, I_le, rd_I, hr', nm, gd, show ¬ P = 0 by omega, not_false_eq_true, if_true, show rw (10 * k + 2) ≤ w / P by omega]
          split <;> split <;> first | rfl | (exfalso; omega)
theorem jnW_b {wo sk se fr : Int} {r : Int → Int} {k t : Int} (h : Rv r) (hs : k = sk → 0 ≤ se ∧ se < r 2) : -1 ≤ jnW wo sk se fr r k t ∧ jnW wo sk se fr r k t ≤ 7 ∧ jnW wo sk se fr r k t ≠ r 1 := by
  have hj := jn_b (fr := fr) h t
  obtain ⟨g0, g1, g2, g3, g6, g7, g8, g9⟩ := h
  unfold jnW
  split
  · omega
  · split
    · rename_i q
      have := g3 se (hs q).1 (hs q).2
      omega
    · exact hj
theorem mM_lastsNow_I (N : Nat) {v : MSt} {rw : Int → Int} {n fr wo sk se k t : Int} (hM : Mst v rw n fr wo sk se) (h1 : 0 ≤ k) (h2 : k < n) (ht : 0 ≤ t) (ht2 : t ≤ 100000) : mM_lastsNow N v (I k) (I t) = some (I (lsW wo sk se fr (rowk rw k) k t)) := by
  unfold mM_lastsNow mM_lastsNow_33 lsW
  rw [mM_joinsNow_I N hM h1 h2 ht ht2]
  obtain ⟨hr, hf, hf2, hn, hn1, hn2, hwo, hsk, hse, hwo2, hsk2, hse2, hv⟩ := hM
  have hv := hv k h1 h2
  rw [mM_whereIn_I N hr hf hf2 h1 (by omega) hv ht ht2, mM_placeOf_I N hr hf hf2 h1 (by omega) hv]
  have hp := plc_b (fr := fr) hv
  have hw := whr_b (fr := fr) hv t
  have hrb := rnd_b (fr := fr) hv
  have hj := jnW_b (wo := wo) (sk := sk) (se := se) (fr := fr) (k := k) (t := t) hv (fun q => by subst q; exact hse2 h1)
  obtain ⟨g0, g1, g2, g3, g6, g7, g8, g9⟩ := hv
  generalize plc fr (rowk rw k) = P at *
  generalize whr fr (rowk rw k) t = w at *
  generalize jnW wo sk se fr (rowk rw k) k t = j at *
  have hr' := hr
  unfold RowsM at hr'
  have e0 : rowk rw k 0 = rw (10 * k) := by unfold rowk; rw [Int.add_zero]
  have e6 : rowk rw k 6 = rw (10 * k + 6) := rfl
  rw [e0] at g0 ⊢
  rw [e6] at g6 ⊢
  have hdiv : w / P < 200 ∧ 0 ≤ w / P := by
    have : w / P ≤ w := Int.ediv_le_self _ hw.1
    exact ⟨by omega, Int.ediv_nonneg hw.1 (by omega)⟩
  have hm := Int.emod_nonneg w (show P ≠ 0 by omega)
  have hm2 := Int.emod_lt_of_pos w (show 0 < P by omega)
  rw [hsk]
  simp (disch := omega) only [I_neg, I_lit, I_mul, I_add, I_sub, I_eq, Option.bind_some, I_div, int_rem, rd_I, hr', gd, show ¬ P = 0 by omega, not_false_eq_true, if_true]
  by_cases q1 : j = -1
  · simp only [q1, not_true_eq_false, if_false, if_true]
  · by_cases q2 : k = sk
    · simp only [q1, q2, not_false_eq_true, if_false, if_true, true_or]
    · by_cases q3 : rw (10 * k) = 3
      · simp only [q1, q2, q3, not_false_eq_true, not_true_eq_false, if_false, if_true, or_true]
      · simp only [q1, q2, q3, not_false_eq_true, if_false, if_true, or_self]
theorem lsW_b {wo sk se fr : Int} {r : Int → Int} {k t : Int} (h : Rv r) : -99 ≤ lsW wo sk se fr r k t ∧ lsW wo sk se fr r k t ≤ 999 := by
  have hp := plc_b (fr := fr) h
  have hm := Int.emod_nonneg (whr fr r t) (show plc fr r ≠ 0 by omega)
  have hm2 := Int.emod_lt_of_pos (whr fr r t) (show 0 < plc fr r by omega)
  obtain ⟨g0, g1, g2, g3, g6, g7, g8, g9⟩ := h
  unfold lsW
  split
  · omega
  · split <;> omega
/-- whether one may begin to go -/
def mg (wo sk se fr : Int) (r : Int → Int) (k t pace weight : Int) : Prop := weight ≤ r 9 ∧ pace ≤ lsW wo sk se fr r k t
theorem mM_mayGo_I (N : Nat) {v : MSt} {rw : Int → Int} {n fr wo sk se k t pace weight : Int} (hM : Mst v rw n fr wo sk se) (h1 : 0 ≤ k) (h2 : k < n) (ht : 0 ≤ t) (ht2 : t ≤ 100000) (hp1 : 1 ≤ pace) (hp2 : pace ≤ 9) (hw1 : 1 ≤ weight) (hw2 : weight ≤ 9) [Decidable (mg wo sk se fr (rowk rw k) k t pace weight)] : mM_mayGo N v (I k) (I t) (I pace) (I weight) = some (if mg wo sk se fr (rowk rw k) k t pace weight then 1 else 0) := by
  unfold mM_mayGo mM_mayGo_31 mM_mayGo_32
  rw [mM_lastsNow_I N hM h1 h2 ht ht2]
  obtain ⟨hr, hf, hf2, hn, hn1, hn2, hwo, hsk, hse, hwo2, hsk2, hse2, hv⟩ := hM
  have hv := hv k h1 h2
  have hb := lsW_b (wo := wo) (sk := sk) (se := se) (fr := fr) (k := k) (t := t) hv
  obtain ⟨g0, g1, g2, g3, g6, g7, g8, g9⟩ := hv
  have hr' := hr
  unfold RowsM at hr'
  have e9 : rowk rw k 9 = rw (10 * k + 9) := rfl
  rw [e9] at g9
  have hlit : (9 : Int32) = I 9 := rfl
  have h10 : (10 : Int32) = I 10 := rfl
  rw [hlit, h10]
  simp (disch := omega) only [I_mul, I_add, Option.bind_some, rd_I, hr', I_lt]
  by_cases q1 : rw (10 * k + 9) < weight
  · rw [if_pos q1, if_neg (fun q => by unfold mg at q; rw [e9] at q; omega)]
    rfl
  · rw [if_neg q1]
    by_cases q2 : lsW wo sk se fr (rowk rw k) k t < pace
    · rw [if_pos q2, if_neg (fun q => by unfold mg at q; omega)]
      rfl
    · rw [if_neg q2, if_pos (by unfold mg; rw [e9]; omega)]
      rfl
