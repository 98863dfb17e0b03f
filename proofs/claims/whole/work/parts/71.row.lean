/-- row k of ten of a table -/
def rowk (rw : Int → Int) (k : Int) : Int → Int := fun f => rw (10 * k + f)
def plc (fr : Int) (r : Int → Int) : Int := r 6 + (if fr = 1 ∧ (r 0 = 1 ∨ r 0 = 2) then 2 * r 7 else r 7)
def pls (r : Int → Int) : Int := if r 0 = 2 ∧ 1 < r 2 then 2 * r 2 - 2 else r 2
def rnd (fr : Int) (r : Int → Int) : Int := if r 0 = 3 then 1 else pls r * plc fr r
def whr (fr : Int) (r : Int → Int) (t : Int) : Int := (t + r 8) % rnd fr r
def eix (r : Int → Int) (p : Int) : Int := if p < r 2 then p else 2 * r 2 - 2 - p
def jn (fr : Int) (r : Int → Int) (t : Int) : Int := if r 0 = 3 then r 3 else if whr fr r t % plc fr r < r 6 then r (3 + eix r (whr fr r t / plc fr r)) else -1
def ls (fr : Int) (r : Int → Int) (t : Int) : Int := if jn fr r t = -1 then 0 else if r 0 = 3 then 999 else r 6 - whr fr r t % plc fr r
/-- a row as a bridge has it -/
def Rv (r : Int → Int) : Prop := (0 ≤ r 0 ∧ r 0 ≤ 3) ∧ (0 ≤ r 1 ∧ r 1 ≤ 7) ∧ (1 ≤ r 2 ∧ r 2 ≤ 3) ∧ (∀ j, 0 ≤ j → j < r 2 → 0 ≤ r (3 + j) ∧ r (3 + j) ≤ 7 ∧ r (3 + j) ≠ r 1) ∧ (1 ≤ r 6 ∧ r 6 ≤ 9) ∧ (1 ≤ r 7 ∧ r 7 ≤ 9) ∧ (-1000 ≤ r 8 ∧ r 8 ≤ 1000) ∧ (1 ≤ r 9 ∧ r 9 ≤ 9)
theorem plc_b {fr : Int} {r : Int → Int} (h : Rv r) : r 6 < plc fr r ∧ plc fr r ≤ 27 ∧ 2 ≤ plc fr r := by
  obtain ⟨h0, h1, h2, h3, h6, h7, h8, h9⟩ := h
  unfold plc
  split <;> omega
theorem pls_b {r : Int → Int} (h : Rv r) : 1 ≤ pls r ∧ pls r ≤ 4 := by
  obtain ⟨h0, h1, h2, h3, h6, h7, h8, h9⟩ := h
  unfold pls
  split <;> omega
theorem rnd_b {fr : Int} {r : Int → Int} (h : Rv r) : 1 ≤ rnd fr r ∧ rnd fr r ≤ 108 := by
  have h1 := plc_b (fr := fr) h
  have h2 := pls_b h
  unfold rnd
  split
  · omega
  · rcases (show pls r = 1 ∨ pls r = 2 ∨ pls r = 3 ∨ pls r = 4 by omega) with q | q | q | q <;> rw [q] <;> omega
theorem whr_b {fr : Int} {r : Int → Int} (h : Rv r) (t : Int) : 0 ≤ whr fr r t ∧ whr fr r t < rnd fr r := by
  have h1 := rnd_b (fr := fr) h
  unfold whr
  exact ⟨Int.emod_nonneg _ (by omega), Int.emod_lt_of_pos _ (by omega)⟩
theorem whp_b {fr : Int} {r : Int → Int} (h : Rv r) (t : Int) (hk : r 0 ≠ 3) : 0 ≤ whr fr r t / plc fr r ∧ whr fr r t / plc fr r < pls r := by
  have h1 := plc_b (fr := fr) h
  have h2 := whr_b (fr := fr) h t
  refine ⟨Int.ediv_nonneg h2.1 (by omega), ?_⟩
  apply Int.ediv_lt_of_lt_mul (by omega)
  have h3 := h2.2
  unfold rnd at h3
  rw [if_neg hk] at h3
  exact h3
theorem eix_b {r : Int → Int} (h : Rv r) {p : Int} (h1 : 0 ≤ p) (h2 : p < pls r) : 0 ≤ eix r p ∧ eix r p < r 2 := by
  obtain ⟨h0, h1', h2', h3, h6, h7, h8, h9⟩ := h
  unfold eix
  unfold pls at h2
  split at h2 <;> split <;> omega
theorem jn_b {fr : Int} {r : Int → Int} (h : Rv r) (t : Int) : -1 ≤ jn fr r t ∧ jn fr r t ≤ 7 ∧ jn fr r t ≠ r 1 := by
  have hh := h
  obtain ⟨h0, h1, h2, h3, h6, h7, h8, h9⟩ := h
  unfold jn
  split
  · have := h3 0 (by omega) (by omega)
    rw [show (3 : Int) + 0 = 3 by omega] at this
    omega
  · rename_i hk
    split
    · have h4 := whp_b (fr := fr) hh t hk
      have h5 := eix_b hh h4.1 h4.2
      have := h3 _ h5.1 h5.2
      omega
    · omega
theorem ls_b {fr : Int} {r : Int → Int} (h : Rv r) (t : Int) : 0 ≤ ls fr r t ∧ ls fr r t ≤ 999 := by
  have hh := h
  have hp := plc_b (fr := fr) h
  obtain ⟨h0, h1, h2, h3, h6, h7, h8, h9⟩ := h
  unfold ls
  split
  · omega
  · split
    · omega
    · rename_i q1 q2
      unfold jn at q1
      rw [if_neg q2] at q1
      split at q1
      · have := Int.emod_nonneg (whr fr r t) (show plc fr r ≠ 0 by omega)
        omega
      · exact absurd rfl q1
def RowsM (v : MSt) (rw : Int → Int) : Prop := ∀ z : Int, 0 ≤ z → z < 100 → v.2.1 5 z.toNat = I (rw z)
theorem mM_placeOf_I (N : Nat) {v : MSt} {rw : Int → Int} {fr k : Int} (hr : RowsM v rw) (hf : v.1 6 = I fr) (hf2 : fr = 0 ∨ fr = 1) (h1 : 0 ≤ k) (h2 : k < 10) (hv : Rv (rowk rw k)) : mM_placeOf N v (I k) = some (I (plc fr (rowk rw k))) := by
  obtain ⟨g0, g1, g2, g3, g6, g7, g8, g9⟩ := hv
  unfold mM_placeOf mM_placeOf_59 mM_placeOf_53 mM_placeOf_60 plc
  unfold RowsM at hr
  unfold rowk at *
  simp only [Int.add_zero] at *
  simp (disch := omega) only [I_lit, I_mul, I_add, rd_I, hr, hf, I_eq]
  by_cases q1 : fr = 1 <;> by_cases q2 : rw (10 * k) = 1 <;> by_cases q3 : rw (10 * k) = 2 <;> simp [q1, q2, q3]
