def clsI (k : Int) : Nat := if k = 1 then 4 else if k = 2 then 9 else if k = 3 then 3 else 1
/-- a bridge of the class holds a row -/
def Bv (v : BV) (r : Int → Int) : Prop := v.2.2.1 = clsI (r 0) ∧ v.2.2.2.1 0 = I (r 1) ∧ v.2.2.2.1 1 = I (r 6) ∧ v.2.2.2.1 2 = I (r 7) ∧ v.2.2.2.1 3 = I (r 9) ∧ v.2.2.2.1 5 = I (r 8) ∧ (v.2.2.2.2.1 : Int) = r 2 ∧ ∀ j : Int, 0 ≤ j → j < r 2 → v.2.2.2.2.2 j.toNat = I (r (3 + j))
def XB (b : BSt) (k : Nat) (r : Int → Int) : Prop := ∃ x, b = some x ∧ k < x.2.1 ∧ Bv (x.2.2 k) r ∧ Rv r
theorem okc_cls (k : Int) : okc (clsI k) = true := by
  unfold clsI
  split
  · rfl
  · split
    · rfl
    · split <;> rfl
theorem XB.at {b : BSt} {k : Nat} {r : Int → Int} (h : XB b k r) {α : Type} (f : BV → Option α) : ∃ v, Bv v r ∧ bwt b k f = f v := by
  obtain ⟨x, rfl, hk, hb, hr⟩ := h
  refine ⟨x.2.2 k, hb, ?_⟩
  show (if k < x.2.1 ∧ okc (x.2.2 k).2.2.1 = true then f (x.2.2 k) else none) = _
  rw [if_pos ⟨hk, by rw [hb.1]; exact okc_cls _⟩]
theorem XB.skip {b : BSt} {k : Nat} {r : Int → Int} (h : XB b k r) {α : Type} (f : Option α) : bwt b k (fun _ => f) = f := by
  obtain ⟨v, -, e⟩ := h.at (fun _ => f)
  exact e
theorem XB.cls {b : BSt} {k : Nat} {r : Int → Int} (h : XB b k r) {α : Type} (f : Nat → Option α) : bwt b k (fun v => f v.2.2.1) = f (clsI (r 0)) := by
  obtain ⟨v, hv, e⟩ := h.at (fun v => f v.2.2.1)
  rw [e, hv.1]
theorem XB.f0 {b : BSt} {k : Nat} {r : Int → Int} (h : XB b k r) {α : Type} (f : Int32 → Option α) : bfi b k 0 f = f (I (r 1)) := by
  obtain ⟨v, hv, e⟩ := h.at (fun v => f (v.2.2.2.1 0))
  exact e.trans (by rw [hv.2.1])
theorem XB.f1 {b : BSt} {k : Nat} {r : Int → Int} (h : XB b k r) {α : Type} (f : Int32 → Option α) : bfi b k 1 f = f (I (r 6)) := by
  obtain ⟨v, hv, e⟩ := h.at (fun v => f (v.2.2.2.1 1))
  exact e.trans (by rw [hv.2.2.1])
theorem XB.f2 {b : BSt} {k : Nat} {r : Int → Int} (h : XB b k r) {α : Type} (f : Int32 → Option α) : bfi b k 2 f = f (I (r 7)) := by
  obtain ⟨v, hv, e⟩ := h.at (fun v => f (v.2.2.2.1 2))
  exact e.trans (by rw [hv.2.2.2.1])
theorem XB.f3 {b : BSt} {k : Nat} {r : Int → Int} (h : XB b k r) {α : Type} (f : Int32 → Option α) : bfi b k 3 f = f (I (r 9)) := by
  obtain ⟨v, hv, e⟩ := h.at (fun v => f (v.2.2.2.1 3))
  exact e.trans (by rw [hv.2.2.2.2.1])
theorem XB.f5 {b : BSt} {k : Nat} {r : Int → Int} (h : XB b k r) {α : Type} (f : Int32 → Option α) : bfi b k 5 f = f (I (r 8)) := by
  obtain ⟨v, hv, e⟩ := h.at (fun v => f (v.2.2.2.1 5))
  exact e.trans (by rw [hv.2.2.2.2.2.1])
theorem XB.ln {b : BSt} {k : Nat} {r : Int → Int} (h : XB b k r) {α : Type} (f : Int32 → Option α) : bln b k f = f (I (r 2)) := by
  obtain ⟨v, hv, e⟩ := h.at (fun v => f (nI v.2.2.2.2.1))
  refine e.trans ?_
  rw [I_nat, hv.2.2.2.2.2.2.1]
theorem XB.en {b : BSt} {k : Nat} {r : Int → Int} (h : XB b k r) {α : Type} {z : Int} (h1 : 0 ≤ z) (h2 : z < r 2) (f : Int32 → Option α) : ben b k (I z) f = f (I (r (3 + z))) := by
  have hr : r 2 ≤ 3 := by
    obtain ⟨x, -, -, -, hr⟩ := h
    exact hr.2.2.1.2
  obtain ⟨v, hv, e⟩ := h.at (fun v => if 0 ≤ (I z).toInt ∧ (I z).toInt < v.2.2.2.2.1 then f (v.2.2.2.2.2 (I z).toNatClampNeg) else none)
  refine e.trans ?_
  rw [I_toInt (by omega) (by omega), I_clamp (by omega) (by omega), if_pos ⟨h1, by rw [hv.2.2.2.2.2.2.1]; exact h2⟩, hv.2.2.2.2.2.2.2 z h1 h2]
theorem XB.rv {b : BSt} {k : Nat} {r : Int → Int} (h : XB b k r) : Rv r := by
  obtain ⟨x, -, -, -, hr⟩ := h
  exact hr
theorem xend (N : Nat) {b : BSt} {k : Nat} {r : Int → Int} (h : XB b k r) {z : Int} (h1 : -2147483648 ≤ z) (h2 : z < 2147483648) : mX0_end N b k (I z) = some (I (if 0 ≤ z ∧ z < r 2 then r (3 + z) else -1)) := by
  have hr := h.rv.2.2.1
  unfold mX0_end mX0_end_22 mX0_end_23
  simp (disch := omega) only [I_lit, I_neg, I_lt]
  by_cases q1 : z < 0
  · rw [if_pos q1, if_neg (by omega)]
  · rw [if_neg q1, h.skip, h.ln]
    simp (disch := omega) only [I_le]
    by_cases q2 : r 2 ≤ z
    · rw [if_pos q2, if_neg (by omega)]
    · rw [if_neg q2, if_pos (by omega), h.skip, h.en (by omega) (by omega)]
theorem xendV (N : Nat) {b : BSt} {k : Nat} {r : Int → Int} (h : XB b k r) (z : Int32) : vX0_end N b k z = mX0_end N b k z := by
  unfold vX0_end
  rw [h.cls (fun c => if c = 1 then mX0_end N b k z else (if c = 3 then mX0_end N b k z else (if c = 4 then mX0_end N b k z else (if c = 9 then mX0_end N b k z else (none)))))]
  have := okc_or (okc_cls (r 0))
  (repeat' split) <;> first | rfl | (exfalso; omega)
theorem cls_1 {r : Int → Int} (h : Rv r) : (clsI (r 0) = 1) = (r 0 = 0) := by
  have := h.1
  unfold clsI
  simp only [eq_iff_iff]
  (repeat' split) <;> omega
theorem cls_3 {r : Int → Int} (h : Rv r) : (clsI (r 0) = 3) = (r 0 = 3) := by
  have := h.1
  unfold clsI
  simp only [eq_iff_iff]
  (repeat' split) <;> omega
theorem cls_4 {r : Int → Int} (h : Rv r) : (clsI (r 0) = 4) = (r 0 = 1) := by
  have := h.1
  unfold clsI
  simp only [eq_iff_iff]
  (repeat' split) <;> omega
theorem cls_9 {r : Int → Int} (h : Rv r) : (clsI (r 0) = 9) = (r 0 = 2) := by
  have := h.1
  unfold clsI
  simp only [eq_iff_iff]
  (repeat' split) <;> omega
theorem xturn (N : Nat) {b : BSt} {k : Nat} {r : Int → Int} (h : XB b k r) {fr : Int} (hf : fr = 0 ∨ fr = 1) : vX0_turnMinutes N b k (I fr) = some (I (plc fr r - r 6)) := by
  have hr := h.rv
  unfold vX0_turnMinutes
  rw [h.cls (fun c => if c = 1 then mX0_turnMinutes N b k (I fr) else (if c = 3 then mX0_turnMinutes N b k (I fr) else (if c = 4 then mX3_turnMinutes N b k (I fr) else (if c = 9 then mX3_turnMinutes N b k (I fr) else (none)))))]
  unfold mX0_turnMinutes mX3_turnMinutes mX3_turnMinutes_17 plc
  simp (disch := omega) only [h.f2, cls_1 hr, cls_3 hr, cls_4 hr, cls_9 hr, I_lit, I_eq, I_mul]
  have := hr.1
  (repeat' split) <;> first | rfl | (exfalso; omega) | (congr 2; omega)
theorem xplaces (N : Nat) {b : BSt} {k : Nat} {r : Int → Int} (h : XB b k r) : vX0_placeCount N b k = some (I (pls r)) := by
  have hr := h.rv
  have h2 := hr.2.2.1
  unfold vX0_placeCount
  rw [h.cls (fun c => if c = 1 then mX0_placeCount N b k else (if c = 3 then mX0_placeCount N b k else (if c = 4 then mX0_placeCount N b k else (if c = 9 then mX8_placeCount N b k else (none)))))]
  have e8 : r 0 = 2 → vX8_endCount N b k = some (I (r 2)) := fun q => by
    unfold vX8_endCount
    rw [h.cls (fun c => if c = 9 then mX0_endCount N b k else (none)), if_pos (by rw [cls_9 hr]; exact q)]
    unfold mX0_endCount
    rw [h.skip, h.ln]
  unfold mX0_placeCount mX8_placeCount mX8_placeCount_20 pls
  simp (disch := omega) only [h.skip, h.ln, cls_1 hr, cls_3 hr, cls_4 hr, cls_9 hr]
  have := hr.1
  by_cases q : r 0 = 2
  · rw [if_neg (by omega), if_neg (by omega), if_neg (by omega), if_pos q, e8 q]
    simp (disch := omega) only [Option.bind_some, I_lit, I_le, I_mul, I_sub]
    (repeat' split) <;> first | rfl | (exfalso; omega) | (congr 2; omega)
  · rw [if_neg (show ¬ (r 0 = 2 ∧ 1 < r 2) by omega)]
    (repeat' split) <;> first | rfl | (exfalso; omega)
theorem xround (N : Nat) {b : BSt} {k : Nat} {r : Int → Int} (h : XB b k r) {fr : Int} (hf : fr = 0 ∨ fr = 1) : vX0_roundMinutes N b k (I fr) = some (I (rnd fr r)) := by
  have hr := h.rv
  unfold vX0_roundMinutes
  rw [h.cls (fun c => if c = 1 then mX0_roundMinutes N b k (I fr) else (if c = 3 then mX2_roundMinutes N b k (I fr) else (if c = 4 then mX0_roundMinutes N b k (I fr) else (if c = 9 then mX0_roundMinutes N b k (I fr) else (none)))))]
  unfold mX0_roundMinutes mX2_roundMinutes rnd
  rw [xplaces N h, xturn N h hf]
  simp (disch := omega) only [Option.bind_some, h.f1, I_add, I_mul, cls_1 hr, cls_3 hr, cls_4 hr, cls_9 hr]
  have := hr.1
  rw [show r 6 + (plc fr r - r 6) = plc fr r by omega]
  (repeat' split) <;> first | rfl | (exfalso; omega)
theorem xendP (N : Nat) {b : BSt} {k : Nat} {r : Int → Int} (h : XB b k r) {p : Int} (h1 : 0 ≤ p) (h2 : p < pls r) : vX0_endOfPlace N b k (I p) = some (I (r (3 + eix r p))) := by
  have hr := h.rv
  have hp := pls_b hr
  have he := eix_b hr h1 h2
  have g2 := hr.2.2.1
  unfold vX0_endOfPlace
  rw [h.cls (fun c => if c = 1 then mX0_endOfPlace N b k (I p) else (if c = 3 then mX0_endOfPlace N b k (I p) else (if c = 4 then mX0_endOfPlace N b k (I p) else (if c = 9 then mX8_endOfPlace N b k (I p) else (none)))))]
  have := hr.1
  by_cases q : r 0 = 2
  · rw [if_neg (by rw [cls_1 hr]; omega), if_neg (by rw [cls_3 hr]; omega), if_neg (by rw [cls_4 hr]; omega), if_pos (by rw [cls_9 hr]; exact q)]
    have e8 : vX8_endCount N b k = some (I (r 2)) := by
      unfold vX8_endCount
      rw [h.cls (fun c => if c = 9 then mX0_endCount N b k else (none)), if_pos (by rw [cls_9 hr]; exact q)]
      unfold mX0_endCount
      rw [h.skip, h.ln]
    have e9 : vX8_placeCount N b k = some (I (pls r)) := by
      have := xplaces N h
      unfold vX0_placeCount at this
      rw [h.cls (fun c => if c = 1 then mX0_placeCount N b k else (if c = 3 then mX0_placeCount N b k else (if c = 4 then mX0_placeCount N b k else (if c = 9 then mX8_placeCount N b k else (none))))), if_neg (by rw [cls_1 hr]; omega), if_neg (by rw [cls_3 hr]; omega), if_neg (by rw [cls_4 hr]; omega), if_pos (by rw [cls_9 hr]; exact q)] at this
      unfold vX8_placeCount
      rw [h.cls (fun c => if c = 9 then mX8_placeCount N b k else (none)), if_pos (by rw [cls_9 hr]; exact q)]
      exact this
    have e10 : ∀ z, vX8_end N b k z = mX0_end N b k z := fun z => by
      unfold vX8_end
      rw [h.cls (fun c => if c = 9 then mX0_end N b k z else (none)), if_pos (by rw [cls_9 hr]; exact q)]
    unfold mX8_endOfPlace mX8_endOfPlace_26
    rw [e8, e9]
    simp (disch := omega) only [Option.bind_some, I_le, I_sub, e10, xend N h]
    unfold eix at he ⊢
    unfold pls at h2 hp ⊢
    by_cases q1 : r 2 ≤ p
    · rw [if_neg (by omega)] at he
      rw [if_pos q1, if_neg (show ¬ p < r 2 by omega)]
      split at h2
      · rename_i q2
        rw [if_pos q2, if_pos (by omega)]
      · omega
    · rw [if_neg q1, if_pos (by omega), if_pos (by omega)]
  · have e1 : mX0_endOfPlace N b k (I p) = some (I (r (3 + eix r p))) := by
      unfold mX0_endOfPlace
      rw [xendV N h, xend N h (by omega) (by omega)]
      have hpl : pls r = r 2 := by
        unfold pls
        rw [if_neg (by omega)]
      rw [hpl] at h2
      unfold eix
      rw [if_pos ⟨h1, h2⟩, if_pos h2]
      rfl
    simp only [cls_1 hr, cls_3 hr, cls_4 hr, cls_9 hr, e1]
    (repeat' split) <;> first | rfl | (exfalso; omega)
/-- where a bridge stands in a moment -/
def jnm (fr : Int) (r : Int → Int) (m : Int) : Int := if r 0 = 3 then r 3 else if m % rnd fr r % plc fr r < r 6 then r (3 + eix r (m % rnd fr r / plc fr r)) else -1
def lsm (fr : Int) (r : Int → Int) (m : Int) : Int := if r 0 = 3 then 999 else if 0 < r 6 - m % plc fr r then r 6 - m % plc fr r else 0
theorem jnm_jn (fr : Int) (r : Int → Int) (t : Int) : jn fr r t = jnm fr r (t + r 8) := rfl
theorem rnd_mod {fr : Int} {r : Int → Int} (hk : r 0 ≠ 3) (m : Int) : m % rnd fr r % plc fr r = m % plc fr r := by
  unfold rnd
  rw [if_neg hk]
  exact Int.emod_emod_of_dvd m (Int.dvd_mul_left _ _)
theorem lsm_ls {fr : Int} {r : Int → Int} (h : Rv r) (t : Int) : ls fr r t = lsm fr r (t + r 8) := by
  have hh := h
  have hj := jn_b (fr := fr) h t
  obtain ⟨g0, g1, g2, g3, g6, g7, g8, g9⟩ := h
  unfold ls lsm
  by_cases q : r 0 = 3
  · rw [if_pos q, if_pos q, if_neg]
    unfold jn
    rw [if_pos q]
    have := g3 0 (by omega) (by omega)
    rw [show (3 : Int) + 0 = 3 by omega] at this
    omega
  · rw [if_neg q, if_neg q]
    unfold jn
    rw [if_neg q]
    have e : whr fr r t % plc fr r = (t + r 8) % plc fr r := by
      unfold whr
      exact rnd_mod q _
    by_cases q2 : whr fr r t % plc fr r < r 6
    · rw [if_pos q2]
      have h4 := whp_b (fr := fr) hh t q
      have h5 := eix_b hh h4.1 h4.2
      have := g3 _ h5.1 h5.2
      rw [if_neg (by omega), e, if_pos (by omega)]
    · rw [if_neg q2, if_pos rfl, if_neg (by omega)]
theorem xendAt (N : Nat) {b : BSt} {k : Nat} {r : Int → Int} (h : XB b k r) {fr m : Int} (hf : fr = 0 ∨ fr = 1) (h1 : 0 ≤ m) (h2 : m ≤ 1000000) : vX0_endAt N b k (I m) (I fr) = some (I (jnm fr r m)) := by
  have hr := h.rv
  have hp := plc_b (fr := fr) hr
  have hb := rnd_b (fr := fr) hr
  unfold vX0_endAt
  rw [h.cls (fun c => if c = 1 then mX0_endAt N b k (I m) (I fr) else (if c = 3 then mX2_endAt N b k (I m) (I fr) else (if c = 4 then mX0_endAt N b k (I m) (I fr) else (if c = 9 then mX0_endAt N b k (I m) (I fr) else (none)))))]
  have := hr.1
  unfold jnm
  by_cases q : r 0 = 3
  · rw [if_neg (by rw [cls_1 hr]; omega), if_pos (by rw [cls_3 hr]; exact q), if_pos q]
    unfold mX2_endAt vX2_end
    rw [h.cls (fun c => if c = 3 then mX0_end N b k 0 else (none)), if_pos (by rw [cls_3 hr]; exact q), show (0 : Int32) = I 0 from rfl, xend N h (by omega) (by omega)]
    have := hr.2.2.1
    rw [if_pos ⟨by omega, by omega⟩]
    rfl
  · have e1 : mX0_endAt N b k (I m) (I fr) = some (I (if m % rnd fr r % plc fr r < r 6 then r (3 + eix r (m % rnd fr r / plc fr r)) else -1)) := by
      have hw : 0 ≤ m % rnd fr r ∧ m % rnd fr r < rnd fr r := ⟨Int.emod_nonneg _ (by omega), Int.emod_lt_of_pos _ (by omega)⟩
      have hwp : 0 ≤ m % rnd fr r / plc fr r ∧ m % rnd fr r / plc fr r < pls r := by
        refine ⟨Int.ediv_nonneg hw.1 (by omega), ?_⟩
        apply Int.ediv_lt_of_lt_mul (by omega)
        have h3 := hw.2
        unfold rnd at h3 ⊢
        rw [if_neg q] at h3 ⊢
        exact h3
      have hep := xendP N h hwp.1 hwp.2
      have hpl := pls_b hr
      unfold mX0_endAt mX0_endAt_33 mX0_endAt_64
      rw [xturn N h hf, xround N h hf]
      have g6 := hr.2.2.2.2.1
      generalize rnd fr r = R at *
      generalize plc fr r = Q at *
      generalize hW : m % R = w at *
      have hm := Int.emod_nonneg w (show Q ≠ 0 by omega)
      have hm2 := Int.emod_lt_of_pos w (show 0 < Q by omega)
      have hd : m / R ≤ m := Int.ediv_le_self _ h1
      have hd0 : 0 ≤ m / R := Int.ediv_nonneg h1 (by omega)
      simp (disch := omega) only [Option.bind_some, h.f1, I_add, I_lit, I_lt, I_le, I_eq, nm, gd, I_neg]
      rw [show r 6 + (Q - r 6) = Q by omega, if_neg (by omega), if_neg (by omega), if_pos (by omega), if_pos (by omega)]
      simp (disch := omega) only [I_div, I_mul, I_sub, int_rem, hW, hep, Option.bind_some, I_le]
      rw [if_pos (by omega)]
      by_cases q5 : w % Q < r 6
      · rw [if_neg (by omega), if_pos (by omega), if_pos q5]
      · rw [if_pos (by omega), if_neg q5]
    simp only [cls_1 hr, cls_3 hr, cls_4 hr, cls_9 hr, e1, q, if_false]
    (repeat' split) <;> first | rfl | (exfalso; omega)
theorem xstands (N : Nat) {b : BSt} {k : Nat} {r : Int → Int} (h : XB b k r) {fr m : Int} (hf : fr = 0 ∨ fr = 1) (h1 : 0 ≤ m) (h2 : m ≤ 1000000) : vX0_standsStill N b k (I m) (I fr) = some (I (lsm fr r m)) := by
  have hr := h.rv
  have hp := plc_b (fr := fr) hr
  unfold vX0_standsStill
  rw [h.cls (fun c => if c = 1 then mX0_standsStill N b k (I m) (I fr) else (if c = 3 then mX2_standsStill N b k (I m) (I fr) else (if c = 4 then mX0_standsStill N b k (I m) (I fr) else (if c = 9 then mX0_standsStill N b k (I m) (I fr) else (none)))))]
  have := hr.1
  unfold lsm
  by_cases q : r 0 = 3
  · rw [if_neg (by rw [cls_1 hr]; omega), if_pos (by rw [cls_3 hr]; exact q), if_pos q]
    rfl
  · have e1 : mX0_standsStill N b k (I m) (I fr) = some (I (if 0 < r 6 - m % plc fr r then r 6 - m % plc fr r else 0)) := by
      unfold mX0_standsStill mX0_standsStill_20
      rw [xturn N h hf]
      have g6 := hr.2.2.2.2.1
      generalize plc fr r = Q at *
      have hm := Int.emod_nonneg m (show Q ≠ 0 by omega)
      have hm2 := Int.emod_lt_of_pos m (show 0 < Q by omega)
      have hd : m / Q ≤ m := Int.ediv_le_self _ h1
      have hd0 : 0 ≤ m / Q := Int.ediv_nonneg h1 (by omega)
      simp (disch := omega) only [Option.bind_some, h.f1, I_add, I_lit, I_lt, I_le, I_eq, nm, gd, I_neg]
      rw [show r 6 + (Q - r 6) = Q by omega, if_neg (by omega), if_pos (by omega), if_pos (by omega)]
      simp (disch := omega) only [I_div, I_mul, I_sub, int_rem, mmax_eq, Option.bind_some, I_lt]
      split <;> rfl
    simp only [cls_1 hr, cls_3 hr, cls_4 hr, cls_9 hr, e1, q, if_false]
    (repeat' split) <;> first | rfl | (exfalso; omega)
