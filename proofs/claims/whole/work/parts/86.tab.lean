/-- a bit of an int -/
def tb (x : Int32) (i : Nat) : Bool := x.toBitVec.getLsbD i
theorem tb_and (x y : Int32) (i : Nat) : tb (x &&& y) i = (tb x i && tb y i) := by
  unfold tb
  rw [Int32.toBitVec_and]
  exact BitVec.getLsbD_and
theorem tb_or (x y : Int32) (i : Nat) : tb (x ||| y) i = (tb x i || tb y i) := by
  unfold tb
  rw [Int32.toBitVec_or]
  exact BitVec.getLsbD_or
def nt (x : Int32) : Int32 := x ^^^ (-1)
theorem nt_eq (x : Int32) : x ^^^ I (-1) = nt x := rfl
theorem tb_m1 : ∀ i, i < 32 → tb (-1) i = true := by decide
theorem tb_nt (x : Int32) {i : Nat} (h : i < 32) : tb (nt x) i = !tb x i := by
  have h1 := tb_m1 i h
  unfold tb nt at *
  rw [Int32.toBitVec_xor, BitVec.getLsbD_xor, h1]
  simp
theorem tb_ge (x : Int32) {i : Nat} (h : 32 ≤ i) : tb x i = false := BitVec.getLsbD_of_ge _ _ h
theorem tb_zero (i : Nat) : tb 0 i = false := by
  unfold tb
  exact BitVec.getLsbD_zero
theorem tb_ext {x y : Int32} (h : ∀ i, i < 32 → tb x i = tb y i) : x = y := Int32.toBitVec_inj.1 (BitVec.eq_of_getLsbD_eq (fun i hi => h i hi))
theorem tb_z {x : Int32} (h : ∀ i, i < 32 → tb x i = false) : x = 0 := tb_ext (fun i hi => (h i hi).trans (tb_zero i).symm)
def sh (z : Int) : Int32 := 1 <<< (I z &&& 31)
theorem sh_eq (z : Int) : I 1 <<< (I z &&& I 31) = sh z := rfl
theorem tb_sh {z : Int} (h1 : 0 ≤ z) (h2 : z < 8) (i : Nat) : tb (sh z) i = decide (i = z.toNat) := by
  by_cases h : i < 32
  · rcases (show z = 0 ∨ z = 1 ∨ z = 2 ∨ z = 3 ∨ z = 4 ∨ z = 5 ∨ z = 6 ∨ z = 7 by omega) with rfl | rfl | rfl | rfl | rfl | rfl | rfl | rfl
    · exact (show ∀ i, i < 32 → tb (sh 0) i = decide (i = (0 : Int).toNat) by decide) i h
    · exact (show ∀ i, i < 32 → tb (sh 1) i = decide (i = (1 : Int).toNat) by decide) i h
    · exact (show ∀ i, i < 32 → tb (sh 2) i = decide (i = (2 : Int).toNat) by decide) i h
    · exact (show ∀ i, i < 32 → tb (sh 3) i = decide (i = (3 : Int).toNat) by decide) i h
    · exact (show ∀ i, i < 32 → tb (sh 4) i = decide (i = (4 : Int).toNat) by decide) i h
    · exact (show ∀ i, i < 32 → tb (sh 5) i = decide (i = (5 : Int).toNat) by decide) i h
    · exact (show ∀ i, i < 32 → tb (sh 6) i = decide (i = (6 : Int).toNat) by decide) i h
    · exact (show ∀ i, i < 32 → tb (sh 7) i = decide (i = (7 : Int).toNat) by decide) i h
  · rw [tb_ge _ (by omega)]
    exact (decide_eq_false (by omega)).symm
theorem tb_255 : ∀ i, i < 32 → tb 255 i = decide (i < 8) := by decide
/-- a bridge's landing by another offset -/
def Lsh (fr : Int) (r : Int → Int) (o p T : Int) : Int := if p ≤ lsm fr r (T + o) then jnm fr r (T + o) else -1
theorem jnm_per (fr : Int) (r : Int → Int) (m : Int) : jnm fr r (m + rnd fr r) = jnm fr r m := by
  unfold jnm
  rw [Int.add_emod_right]
theorem lsm_per (fr : Int) (r : Int → Int) (m : Int) : lsm fr r (m + rnd fr r) = lsm fr r m := by
  unfold lsm
  by_cases q : r 0 = 3
  · rw [if_pos q, if_pos q]
  · have e : (m + rnd fr r) % plc fr r = m % plc fr r := by
      unfold rnd
      rw [if_neg q, Int.add_mul_emod_self_right]
    rw [e]
theorem Lsh_per (fr : Int) (r : Int → Int) (o p T : Int) : Lsh fr r o p (T + rnd fr r) = Lsh fr r o p T := by
  unfold Lsh
  rw [show T + rnd fr r + o = T + o + rnd fr r by omega, lsm_per, jnm_per]
theorem Lsh_b {fr : Int} {r : Int → Int} (h : Rv r) (o p T : Int) : -1 ≤ Lsh fr r o p T ∧ Lsh fr r o p T ≤ 7 ∧ Lsh fr r o p T ≠ r 1 := by
  have hj := jn_b (fr := fr) h (T + o - r 8)
  rw [jnm_jn, show T + o - r 8 + r 8 = T + o by omega] at hj
  have := h.2.1
  unfold Lsh
  split <;> omega
theorem lsm_b {fr : Int} {r : Int → Int} (h : Rv r) (m : Int) : 0 ≤ lsm fr r m ∧ lsm fr r m ≤ 999 := by
  have := ls_b (fr := fr) h (m - r 8)
  rw [lsm_ls h, show m - r 8 + r 8 = m by omega] at this
  exact this
theorem jnm_b {fr : Int} {r : Int → Int} (h : Rv r) (m : Int) : -1 ≤ jnm fr r m ∧ jnm fr r m ≤ 7 ∧ jnm fr r m ≠ r 1 := by
  have hj := jn_b (fr := fr) h (m - r 8)
  rw [jnm_jn, show m - r 8 + r 8 = m by omega] at hj
  exact hj
theorem Lw_eq {se fr : Int} {rw : Int → Int} {p w k : Int} (hk : 0 ≤ k) (hv : Rv (rowk rw k)) (hw : w ≤ rowk rw k 9) (T : Int) : Lw (-1) (-1) se fr rw p w k T = Lsh fr (rowk rw k) (rowk rw k 8) p T := by
  unfold Lw Lsh
  rw [lsW_n hk, jnW_n hk, lsm_ls hv, jnm_jn]
  by_cases q : p ≤ lsm fr (rowk rw k) (T + rowk rw k 8)
  · rw [if_pos ⟨hw, q⟩, if_pos q]
  · rw [if_neg (fun g => q g.2), if_neg q]
theorem Lw_no {wo sk se fr : Int} {rw : Int → Int} {p w k : Int} (hw : ¬ w ≤ rowk rw k 9) (T : Int) : Lw wo sk se fr rw p w k T = -1 := if_neg (fun g => hw g.1)
theorem lenL {k : Nat} (h : k < 10) : lenX (26 + k) = 1000 := by
  rcases (show k = 0 ∨ k = 1 ∨ k = 2 ∨ k = 3 ∨ k = 4 ∨ k = 5 ∨ k = 6 ∨ k = 7 ∨ k = 8 ∨ k = 9 by omega) with rfl | rfl | rfl | rfl | rfl | rfl | rfl | rfl | rfl | rfl <;> rfl
theorem lenF {k : Nat} (h : k < 8) : lenX (36 + k) = 460 := by
  rcases (show k = 0 ∨ k = 1 ∨ k = 2 ∨ k = 3 ∨ k = 4 ∨ k = 5 ∨ k = 6 ∨ k = 7 by omega) with rfl | rfl | rfl | rfl | rfl | rfl | rfl | rfl <;> rfl
theorem okL {k : Nat} (h : k < 10) : okA (26 + k) = true := by
  unfold okA
  rw [lenL h]
  rfl
theorem okF {k : Nat} (h : k < 8) : okA (36 + k) = true := by
  unfold okA
  rw [lenF h]
  rfl
theorem wrX_L {α : Type} {k : Nat} {z : Int} {f : Nat → Option α} (hk : k < 10) (h1 : 0 ≤ z) (h2 : z < 1000) : wrX (26 + k) (I z) f = f z.toNat := wrX_I (okL hk) h1 (by rw [lenL hk]; exact h2) (by omega)
theorem rdX_L {α : Type} {u : USt} {k : Nat} {z : Int} {f : Int32 → Option α} (hk : k < 10) (h1 : 0 ≤ z) (h2 : z < 1000) : rdX u (26 + k) (I z) f = f (u.2 (26 + k) z.toNat) := rdX_I (okL hk) h1 (by rw [lenL hk]; exact h2) (by omega)
theorem wrX_F {α : Type} {k : Nat} {z : Int} {f : Nat → Option α} (hk : k < 8) (h1 : 0 ≤ z) (h2 : z < 460) : wrX (36 + k) (I z) f = f z.toNat := wrX_I (okF hk) h1 (by rw [lenF hk]; exact h2) (by omega)
theorem rdX_F {α : Type} {u : USt} {k : Nat} {z : Int} {f : Int32 → Option α} (hk : k < 8) (h1 : 0 ≤ z) (h2 : z < 460) : rdX u (36 + k) (I z) f = f (u.2 (36 + k) z.toNat) := rdX_I (okF hk) h1 (by rw [lenF hk]; exact h2) (by omega)
theorem saX_sfX (u : USt) (k : Nat) (g : Nat → Int32) (j : Nat) (x : Int32) : saX (sfX u k g) k j x = sfX u k (upd g j x) := by
  unfold saX sfX
  simp only [vu_eq, va_up_2]
/-- what one row of the table says -/
def RowT (u : USt) (s sp k Pk : Int) (Lk : Int → Int) : Prop := (∀ t, 0 ≤ t → t < sp → u.2 (26 + k.toNat) t.toNat = I (Lk (s + t)) ∧ (Lk (s + t) ≠ -1 → u.2 14 k.toNat = I Pk ∧ tb (u.2 15 k.toNat) (Lk (s + t)).toNat = true ∧ tb (u.2 15 k.toNat) Pk.toNat = true)) ∧ ∀ i, 8 ≤ i → tb (u.2 15 k.toNat) i = false
def KT (u u' : USt) (k : Nat) : Prop := u'.1 = u.1 ∧ (∀ a, a ≠ 14 → a ≠ 15 → a ≠ 26 + k → u'.2 a = u.2 a) ∧ ∀ j, j ≠ k → u'.2 14 j = u.2 14 j ∧ u'.2 15 j = u.2 15 j
theorem RowT.keep {u u' : USt} {s sp k Pk : Int} {Lk : Int → Int} {j : Nat} (h : RowT u s sp k Pk Lk) (hk : KT u u' j) (hj : k.toNat ≠ j) : RowT u' s sp k Pk Lk := by
  obtain ⟨h1, h2⟩ := h
  obtain ⟨-, k2, k3⟩ := hk
  obtain ⟨e1, e2⟩ := k3 _ hj
  refine ⟨fun t t1 t2 => ?_, fun i hi => ?_⟩
  · rw [k2 (26 + k.toNat) (by omega) (by omega) (by omega), e1, e2]
    exact h1 t t1 t2
  · rw [e2]
    exact h2 i hi
theorem RowT.congr {u : USt} {s sp k Pk : Int} {Lk Lk' : Int → Int} (h : RowT u s sp k Pk Lk) (e : ∀ T, Lk' T = Lk T) : RowT u s sp k Pk Lk' := by
  rw [funext e]
  exact h
theorem KT.kx {u u' : USt} {k : Nat} (h : KT u u' k) : KX u u' := ⟨fun j _ => by rw [h.1], fun a q => h.2.1 a (by omega) (by omega) (by omega)⟩
def Bts (fr : Int) (r : Int → Int) (o p s : Int) (x : Int32) (t : Int) : Prop := (∀ i, 8 ≤ i → tb x i = false) ∧ ∀ t', 0 ≤ t' → t' < t → Lsh fr r o p (s + t') ≠ -1 → tb x (Lsh fr r o p (s + t')).toNat = true ∧ tb x (r 1).toNat = true
theorem Bts_or {fr : Int} {r : Int → Int} (hr : Rv r) {o p s t : Int} {x : Int32} (h : Bts fr r o p s x t) {e : Int} (he : e = Lsh fr r o p (s + t)) (e1 : 0 ≤ e) (e2 : e < 8) : Bts fr r o p s (x ||| (sh e ||| sh (r 1))) (t + 1) := by
  have hp := hr.2.1
  refine ⟨fun i hi => ?_, fun t' q1 q2 q3 => ?_⟩
  · rw [tb_or, tb_or, h.1 i hi, tb_sh e1 e2, tb_sh hp.1 (by omega)]
    have h1 : ¬ i = e.toNat := by omega
    have h2 : ¬ i = (r 1).toNat := by omega
    simp [h1, h2]
  · rw [tb_or, tb_or, tb_or, tb_or, tb_sh e1 e2, tb_sh hp.1 (by omega), tb_sh e1 e2, tb_sh hp.1 (by omega)]
    by_cases q : t' = t
    · subst q
      rw [← he]
      simp
    · have := h.2 t' q1 (by omega) q3
      rw [this.1, this.2]
      simp
theorem Bts_no {fr : Int} {r : Int → Int} {o p s t : Int} {x : Int32} (h : Bts fr r o p s x t) (he : Lsh fr r o p (s + t) = -1) : Bts fr r o p s x (t + 1) := by
  refine ⟨h.1, fun t' q1 q2 q3 => ?_⟩
  by_cases q : t' = t
  · subst q
    exact absurd he q3
  · exact h.2 t' q1 (by omega) q3
/-- a row laid -/
def layS (u : USt) (k : Nat) (g : Nat → Int32) (pv x : Int32) : USt := saX (saX (sfX u (26 + k) g) 14 k pv) 15 k x
theorem layS_L (u : USt) (k : Nat) (g : Nat → Int32) (pv x : Int32) : (layS u k g pv x).2 (26 + k) = g := by
  show va_up (va_up (va_up u.2 (26 + k) g) 14 (upd (va_up u.2 (26 + k) g 14) k pv)) 15 (upd (va_up (va_up u.2 (26 + k) g) 14 (upd (va_up u.2 (26 + k) g 14) k pv) 15) k x) (26 + k) = _
  rw [vu_ne (by omega), vu_ne (by omega), vu_eq]
theorem layS_14 (u : USt) (k : Nat) (g : Nat → Int32) (pv x : Int32) : (layS u k g pv x).2 14 = upd (u.2 14) k pv := by
  show va_up (va_up (va_up u.2 (26 + k) g) 14 (upd (va_up u.2 (26 + k) g 14) k pv)) 15 (upd (va_up (va_up u.2 (26 + k) g) 14 (upd (va_up u.2 (26 + k) g 14) k pv) 15) k x) 14 = _
  rw [vu_ne (by omega), vu_eq, vu_ne (by omega)]
theorem layS_15 (u : USt) (k : Nat) (g : Nat → Int32) (pv x : Int32) : (layS u k g pv x).2 15 = upd (u.2 15) k x := by
  show va_up (va_up (va_up u.2 (26 + k) g) 14 (upd (va_up u.2 (26 + k) g 14) k pv)) 15 (upd (va_up (va_up u.2 (26 + k) g) 14 (upd (va_up u.2 (26 + k) g 14) k pv) 15) k x) 15 = _
  rw [vu_eq, vu_ne (by omega), vu_ne (by omega)]
theorem layS_o {u : USt} {k : Nat} {g : Nat → Int32} {pv x : Int32} {a : Nat} (h1 : a ≠ 14) (h2 : a ≠ 15) (h3 : a ≠ 26 + k) : (layS u k g pv x).2 a = u.2 a := by
  show va_up (va_up (va_up u.2 (26 + k) g) 14 (upd (va_up u.2 (26 + k) g 14) k pv)) 15 (upd (va_up (va_up u.2 (26 + k) g) 14 (upd (va_up u.2 (26 + k) g 14) k pv) 15) k x) a = _
  rw [vu_ne h2, vu_ne h1, vu_ne h3]
theorem layS_KT (u : USt) (k : Nat) (g : Nat → Int32) (pv x : Int32) : KT u (layS u k g pv x) k := by
  refine ⟨rfl, fun a a1 a2 a3 => layS_o a1 a2 a3, fun j hj => ?_⟩
  rw [layS_14, layS_15, ud_ne hj, ud_ne hj]
  exact ⟨rfl, rfl⟩
theorem layS_row {u : USt} {k s sp Pk : Int} {g : Nat → Int32} {x : Int32} {Lk : Int → Int} (hg : ∀ t, 0 ≤ t → t < sp → g t.toNat = I (Lk (s + t))) (hx : ∀ i, 8 ≤ i → tb x i = false) (hb : ∀ t, 0 ≤ t → t < sp → Lk (s + t) ≠ -1 → tb x (Lk (s + t)).toNat = true ∧ tb x Pk.toNat = true) : RowT (layS u k.toNat g (I Pk) x) s sp k Pk Lk := by
  refine ⟨fun t t1 t2 => ⟨?_, fun q => ?_⟩, ?_⟩
  · rw [layS_L]
    exact hg t t1 t2
  · rw [layS_14, layS_15, ud_eq, ud_eq]
    exact ⟨rfl, hb t t1 t2 q⟩
  · rw [layS_15, ud_eq]
    exact hx
theorem x_lay35 (N : Nat) {b : BSt} {k : Int} {r : Int → Int} (h : XB b k.toNat r) {fr : Int} (hf : fr = 0 ∨ fr = 1) {u : USt} {s sp p o : Int} (u15 : u.1 15 = I s) (u16 : u.1 16 = I sp) (u17 : u.1 17 = I p) (k1 : 0 ≤ k) (k2 : k < 10) (s1 : 0 ≤ s) (s2 : s ≤ 999) (sp2 : sp ≤ 999) (p1 : 1 ≤ p) (p2 : p ≤ 9) (o1 : 0 ≤ o) (o2 : o ≤ 1000) : ∀ (d f : Nat) (t : Int) (g : Nat → Int32) (x : Int32), d < f → (d : Int) = sp - t → 0 ≤ t → (∀ t', 0 ≤ t' → t' < t → g t'.toNat = I (Lsh fr r o p (s + t'))) → Bts fr r o p s x t → ∃ (g' : Nat → Int32) (x' : Int32), (∀ t', 0 ≤ t' → t' < sp → g' t'.toNat = I (Lsh fr r o p (s + t'))) ∧ Bts fr r o p s x' sp ∧ mX9_lay_h35 N b f (sfX u (26 + k.toNat) g) (I k) k.toNat (I o) (I fr) (I (rnd fr r)) (26 + k.toNat) x (I t) = some (layS u k.toNat g' (I (r 1)) x') := by
  have hr := h.rv
  have hR := rnd_b (fr := fr) hr
  have kk : k.toNat < 10 := by omega
  intro d
  induction d with
  | zero =>
    intro f t g x hf' hd ht hg hx
    obtain ⟨f, rfl⟩ : ∃ g, f = g + 1 := ⟨f - 1, by omega⟩
    have et : t = sp := by omega
    subst et
    refine ⟨g, x, hg, hx, ?_⟩
    show mX9_lay_35 N b _ _ _ _ _ _ _ _ _ _ = _
    unfold mX9_lay_35
    simp only [nm]
    have e16 : (sfX u (26 + k.toNat) g).1 16 = I t := u16
    rw [e16, if_pos (by rw [I_le (by omega) (by omega) (by omega) (by omega)]; omega), h.f0, wrX_14 k1 k2, wrX_15 k1 k2]
    rfl
  | succ d ih =>
    intro f t g x hf' hd ht hg hx
    obtain ⟨f, rfl⟩ : ∃ g, f = g + 1 := ⟨f - 1, by omega⟩
    have hL := Lsh_b (fr := fr) hr o p (s + t)
    have hnx : ∀ t', 0 ≤ t' → t' < t + 1 → upd g t.toNat (I (Lsh fr r o p (s + t))) t'.toNat = I (Lsh fr r o p (s + t')) := by
      intro t' q1 q2
      by_cases q : t' = t
      · subst q
        rw [ud_eq]
      · rw [ud_ne (by omega)]
        exact hg t' q1 (by omega)
    show ∃ (g' : Nat → Int32) (x' : Int32), _ ∧ _ ∧ mX9_lay_35 N b _ _ _ _ _ _ _ _ _ _ = _
    unfold mX9_lay_35 mX9_lay_72 mX9_lay_110 mX9_lay_141
    simp only [nm]
    have e15 : (sfX u (26 + k.toNat) g).1 15 = I s := u15
    have e16 : (sfX u (26 + k.toNat) g).1 16 = I sp := u16
    have e17 : (sfX u (26 + k.toNat) g).1 17 = I p := u17
    have eg : (sfX u (26 + k.toNat) g).2 (26 + k.toNat) = g := vu_eq _ _ _
    rw [e15, e16, e17]
    simp (disch := omega) only [I_lit, I_le, I_lt, I_add, I_sub, I_neg]
    rw [if_neg (by omega), if_neg (by omega)]
    by_cases q : t < rnd fr r
    · rw [if_pos q, xstands N h hf (by omega) (by omega), xendAt N h hf (by omega) (by omega)]
      have hls := lsm_b (fr := fr) hr (s + t + o)
      have hjn := jnm_b (fr := fr) hr (s + t + o)
      simp (disch := omega) only [Option.bind_some, I_lt]
      by_cases q2 : lsm fr r (s + t + o) < p
      · have eL : Lsh fr r o p (s + t) = -1 := if_neg (by omega)
        rw [if_pos q2, wrX_L kk ht (by omega), if_pos trivial, saX_sfX]
        rw [eL] at hnx
        exact ih f (t + 1) _ x (by omega) (by omega) (by omega) hnx (Bts_no hx eL)
      · have eL : Lsh fr r o p (s + t) = jnm fr r (s + t + o) := if_pos (by omega)
        rw [if_neg q2, wrX_L kk ht (by omega), ← eL, saX_sfX]
        by_cases q3 : Lsh fr r o p (s + t) = -1
        · rw [if_pos (show I (Lsh fr r o p (s + t)) = I (-1) by rw [q3])]
          exact ih f (t + 1) _ x (by omega) (by omega) (by omega) hnx (Bts_no hx q3)
        · rw [if_neg (show ¬ I (Lsh fr r o p (s + t)) = I (-1) by rw [I_eq (by omega) (by omega) (by omega) (by omega)]; exact q3), h.f0, sh_eq, sh_eq]
          exact ih f (t + 1) _ _ (by omega) (by omega) (by omega) hnx (Bts_or hr hx rfl (by omega) (by omega))
    · have eL : Lsh fr r o p (s + t) = Lsh fr r o p (s + (t - rnd fr r)) := by
        rw [← Lsh_per fr r o p (s + (t - rnd fr r)), show s + (t - rnd fr r) + rnd fr r = s + t by omega]
      rw [if_neg q, rdX_L kk (by omega) (by omega), wrX_L kk ht (by omega), eg, hg (t - rnd fr r) (by omega) (by omega), ← eL, saX_sfX]
      refine ih f (t + 1) _ x (by omega) (by omega) (by omega) hnx ⟨hx.1, fun t' q1 q2 q3 => ?_⟩
      by_cases q4 : t' = t
      · subst q4
        have := hx.2 (t' - rnd fr r) (by omega) (by omega) (by rw [← eL]; exact q3)
        rw [eL]
        exact this
      · exact hx.2 t' q1 (by omega) q3
theorem x_lay (N : Nat) (hN : 1000 < N) {b : BSt} {k : Int} {r : Int → Int} (h : XB b k.toNat r) {fr : Int} (hf : fr = 0 ∨ fr = 1) {u : USt} {s sp p n o : Int} (u15 : u.1 15 = I s) (u16 : u.1 16 = I sp) (u17 : u.1 17 = I p) (u18 : u.1 18 = I n) (k1 : 0 ≤ k) (k2 : k < n) (n2 : n ≤ 10) (s1 : 0 ≤ s) (s2 : s ≤ 999) (sp1 : 0 ≤ sp) (sp2 : sp ≤ 999) (p1 : 1 ≤ p) (p2 : p ≤ 9) (o1 : 0 ≤ o) (o2 : o ≤ 1000) : ∃ u', mX9_lay N b u (I k) k.toNat (I o) (I fr) = some u' ∧ KT u u' k.toNat ∧ RowT u' s sp k (r 1) (Lsh fr r o p) := by
  obtain ⟨g', x', h1, h2, h3⟩ := x_lay35 N h hf u15 u16 u17 k1 (by omega) s1 s2 sp2 p1 p2 o1 o2 sp.toNat N 0 (u.2 (26 + k.toNat)) 0 (by omega) (by omega) (by omega) (fun t' q1 q2 => by omega) ⟨fun i _ => tb_zero i, fun t' q1 q2 => by omega⟩
  rw [sfX_self] at h3
  refine ⟨layS u k.toNat g' (I (r 1)) x', ?_, layS_KT _ _ _ _ _, layS_row h1 h2.1 h2.2⟩
  · unfold mX9_lay
    simp only [nm]
    rw [u18, xround N h hf, Option.bind_some]
    simp (disch := omega) only [I_lt, I_lit]
    rw [if_neg (by omega), if_pos k2, wr_I k1 (by omega) (by omega)]
    exact h3
theorem x_fill5 (N : Nat) {u : USt} {a len : Nat} (ha : okA a = true) (hl : lenX a = len) (hl2 : len ≤ 100000) (x : Int32) : ∀ (d f : Nat) (j : Nat) (g : Nat → Int32), d < f → d + j = len → (∀ i, i < j → g i = x) → ∃ g' : Nat → Int32, (∀ i, i < len → g' i = x) ∧ mJ7_fill_53178_h5 N f (sfX u a g) a x (I (j : Int)) (I (len : Int)) = some (sfX u a g') := by
  intro d
  induction d with
  | zero =>
    intro f j g hf hd hg
    obtain ⟨f, rfl⟩ : ∃ g, f = g + 1 := ⟨f - 1, by omega⟩
    refine ⟨g, fun i hi => hg i (by omega), ?_⟩
    show mJ7_fill_53178_5 N _ _ _ _ _ _ = _
    unfold mJ7_fill_53178_5
    rw [if_pos (by rw [I_le (by omega) (by omega) (by omega) (by omega)]; omega)]
  | succ d ih =>
    intro f j g hf hd hg
    obtain ⟨f, rfl⟩ : ∃ g, f = g + 1 := ⟨f - 1, by omega⟩
    obtain ⟨g', h1, h2⟩ := ih f (j + 1) (upd g j x) (by omega) (by omega) (fun i hi => by
      by_cases q : i = j
      · subst q
        rw [ud_eq]
      · rw [ud_ne q]
        exact hg i (by omega))
    refine ⟨g', h1, ?_⟩
    show mJ7_fill_53178_5 N _ _ _ _ _ _ = _
    unfold mJ7_fill_53178_5
    simp only [nm]
    rw [if_neg (by rw [I_le (by omega) (by omega) (by omega) (by omega)]; omega), wrX_I ha (by omega) (by rw [hl]; omega) (by omega), saX_sfX, show ((j : Int)).toNat = j by omega]
    rw [show ((j + 1 : Nat) : Int) = (j : Int) + 1 by omega] at h2
    rw [show I (j : Int) + 1 = I ((j : Int) + 1) from I_add _ 1]
    exact h2
theorem x_fill (N : Nat) (u : USt) {a len : Nat} (ha : okA a = true) (hl : lenX a = len) (hl2 : len ≤ 100000) (hN : len < N) (x : Int32) : ∃ g' : Nat → Int32, (∀ i, i < len → g' i = x) ∧ mJ7_fill_53178 N u a x = some (sfX u a g') := by
  obtain ⟨g', h1, h2⟩ := x_fill5 N (u := u) ha hl hl2 x len N 0 (u.2 a) hN (by omega) (fun i hi => by omega)
  rw [sfX_self] at h2
  refine ⟨g', h1, ?_⟩
  unfold mJ7_fill_53178 alX
  rw [if_pos ha, hl]
  exact h2
theorem x_layAlways (N : Nat) (hN : 1000 < N) {u : USt} {s sp n k pv e : Int} (u18 : u.1 18 = I n) (k1 : 0 ≤ k) (k2 : k < n) (n2 : n ≤ 10) (sp2 : sp ≤ 999) (pv1 : 0 ≤ pv) (pv2 : pv < 8) (e1 : -1 ≤ e) (e2 : e < 8) : ∃ u', mX9_layAlways N u (I k) (I pv) (I e) = some u' ∧ KT u u' k.toNat ∧ RowT u' s sp k pv (fun _ => e) := by
  have kk : k.toNat < 10 := by omega
  obtain ⟨g', h1, h2⟩ := x_fill N u (okL kk) (lenL kk) (by omega) (by omega) (I e)
  have key : ∀ x' : Int32, ((∀ i, 8 ≤ i → tb x' i = false) ∧ (e ≠ -1 → tb x' e.toNat = true ∧ tb x' pv.toNat = true)) → KT u (layS u k.toNat g' (I pv) x') k.toNat ∧ RowT (layS u k.toNat g' (I pv) x') s sp k pv (fun _ => e) := fun x' hx => ⟨layS_KT _ _ _ _ _, layS_row (fun t t1 t2 => h1 _ (by omega)) hx.1 (fun t t1 t2 q => hx.2 q)⟩
  unfold mX9_layAlways mX9_layAlways_51
  simp only [nm]
  rw [u18]
  simp (disch := omega) only [I_lt, I_lit, I_neg, I_eq]
  rw [if_neg (by omega), if_pos k2, wr_I k1 (by omega) (by omega), h2, Option.bind_some, wrX_14 k1 (by omega)]
  by_cases q : e = -1
  · rw [if_neg (not_not_intro q), wrX_15 k1 (by omega)]
    exact ⟨_, rfl, key 0 ⟨fun i _ => tb_zero i, fun g => absurd q g⟩⟩
  · rw [if_pos q, wrX_15 k1 (by omega), sh_eq, sh_eq]
    refine ⟨_, rfl, key _ ⟨fun i hi => ?_, fun _ => ?_⟩⟩
    · rw [tb_or, tb_sh (by omega) e2, tb_sh pv1 pv2]
      have g1 : ¬ i = e.toNat := by omega
      have g2 : ¬ i = pv.toNat := by omega
      simp [g1, g2]
    · rw [tb_or, tb_or, tb_sh (by omega) e2, tb_sh pv1 pv2, tb_sh (by omega) e2, tb_sh pv1 pv2]
      simp
theorem x_layNothing (N : Nat) (hN : 1000 < N) {u : USt} {s sp n k : Int} (Pk : Int) (u18 : u.1 18 = I n) (k1 : 0 ≤ k) (k2 : k < n) (n2 : n ≤ 10) (sp2 : sp ≤ 999) : ∃ u', mX9_layNothing N u (I k) = some u' ∧ KT u u' k.toNat ∧ RowT u' s sp k Pk (fun _ => -1) := by
  obtain ⟨u', h1, h2, h3⟩ := x_layAlways N hN (u := u) (s := s) (sp := sp) (n := n) (k := k) (pv := 0) (e := -1) u18 k1 k2 n2 sp2 (by omega) (by omega) (by omega) (by omega)
  refine ⟨u', ?_, h2, fun t t1 t2 => ⟨(h3.1 t t1 t2).1, fun q => absurd rfl q⟩, h3.2⟩
  unfold mX9_layNothing
  rw [show (0 : Int32) = I 0 from rfl, show (-1 : Int32) = I (-1) from rfl, h1]
  rfl
/-- the table -/
def Tab (u : USt) (s sp p n j : Int) (P : Int → Int) (L : Int → Int → Int) : Prop := u.1 15 = I s ∧ u.1 16 = I sp ∧ u.1 17 = I p ∧ u.1 18 = I n ∧ ∀ k, 0 ≤ k → k < j → RowT u s sp k (P k) (L k)
theorem Tab.lay {u u' : USt} {s sp p n j k : Int} {P P' : Int → Int} {L L' : Int → Int → Int} (h : Tab u s sp p n j P L) (hk : KT u u' k.toNat) (k1 : 0 ≤ k) (hr : RowT u' s sp k (P' k) (L' k)) (j' : Int) (hj : j' ≤ j ∨ (j' ≤ j + 1 ∧ k = j)) (he : ∀ i, 0 ≤ i → i < j' → i ≠ k → P' i = P i ∧ L' i = L i) : Tab u' s sp p n j' P' L' := by
  obtain ⟨h1, h2, h3, h4, h5⟩ := h
  refine ⟨by rw [hk.1]; exact h1, by rw [hk.1]; exact h2, by rw [hk.1]; exact h3, by rw [hk.1]; exact h4, fun i i1 i2 => ?_⟩
  by_cases q : i = k
  · subst q
    exact hr
  · rw [(he i i1 i2 q).1, (he i i1 i2 q).2]
    exact (h5 i i1 (by omega)).keep hk (by omega)
theorem x_open20 (N : Nat) (hN : 1000 < N) {b : BSt} {rw : Int → Int} {s sp p n fr w : Int} (se : Int) (hs : Shf rw n) (s1 : 0 ≤ s) (s2 : s ≤ 999) (sp1 : 0 ≤ sp) (sp2 : sp ≤ 999) (p1 : 1 ≤ p) (p2 : p ≤ 9) (w1 : 1 ≤ w) (w2 : w ≤ 9) : ∀ (d f : Nat) (j : Int) (u : USt), d < f → (d : Int) = n - j → 0 ≤ j → Xst u b rw n fr → Tab u s sp p n j (Pw rw) (Lw (-1) (-1) se fr rw p w) → ∃ u', mX10_openTable_h20 N b f u (I w) (I j) = some u' ∧ KX u u' ∧ Tab u' s sp p n n (Pw rw) (Lw (-1) (-1) se fr rw p w) := by
  intro d
  induction d with
  | zero =>
    intro f j u hf hd hj hX hT
    obtain ⟨f, rfl⟩ : ∃ g, f = g + 1 := ⟨f - 1, by omega⟩
    have ej : j = n := by omega
    subst ej
    have n2 := hX.2.2.1
    refine ⟨u, ?_, KX.refl u, hT⟩
    show mX10_openTable_20 N b _ _ _ _ = _
    unfold mX10_openTable_20
    rw [x_size N hX, Option.bind_some, if_pos (by rw [I_le (by omega) (by omega) (by omega) (by omega)]; omega)]
  | succ d ih =>
    intro f j u hf hd hj hX hT
    obtain ⟨f, rfl⟩ : ∃ g, f = g + 1 := ⟨f - 1, by omega⟩
    have n2 := hX.2.2.1
    have hb := hX.row hj (by omega)
    have h9 := hb.rv.2.2.2.2.2.2.2
    have h8 := hs j hj (by omega)
    have u19 := hX.2.2.2.1
    have hfr := hX.2.2.2.2.1
    have hT2 := hT
    obtain ⟨t15, t16, t17, t18, -⟩ := hT
    show ∃ u', mX10_openTable_20 N b _ _ _ _ = _ ∧ _
    unfold mX10_openTable_20 mX10_openTable_88
    simp only [nm]
    rw [x_size N hX, Option.bind_some, x_get N hX hj (by omega), Option.bind_some, hb.skip, hb.f3, hb.f5, u19]
    simp (disch := omega) only [I_le, I_lt, I_lit, I_add]
    rw [if_neg (by omega)]
    by_cases q : rowk rw j 9 < w
    · obtain ⟨u', e1, e2, e3⟩ := x_layNothing N hN (u := u) (s := s) (sp := sp) (Pw rw j) t18 hj (by omega) n2 sp2
      rw [if_pos q, e1, Option.bind_some]
      obtain ⟨u'', f1, f2, f3⟩ := ih f (j + 1) u' (by omega) (by omega) (by omega) (hX.keep e2.kx) (hT2.lay e2 hj (e3.congr (fun T => Lw_no (by omega) T)) (j + 1) (.inr ⟨by omega, rfl⟩) (fun i _ _ _ => ⟨rfl, rfl⟩))
      exact ⟨u'', f1, e2.kx.trans f2, f3⟩
    · obtain ⟨u', e1, e2, e3⟩ := x_lay N hN hb hfr (o := rowk rw j 8) t15 t16 t17 t18 hj (by omega) n2 s1 s2 sp1 sp2 p1 p2 (by omega) (by omega)
      rw [if_neg q, e1, Option.bind_some]
      obtain ⟨u'', f1, f2, f3⟩ := ih f (j + 1) u' (by omega) (by omega) (by omega) (hX.keep e2.kx) (hT2.lay e2 hj (e3.congr (fun T => Lw_eq hj hb.rv (by omega) T)) (j + 1) (.inr ⟨by omega, rfl⟩) (fun i _ _ _ => ⟨rfl, rfl⟩))
      exact ⟨u'', f1, e2.kx.trans f2, f3⟩
theorem x_openTable {u : USt} {b : BSt} {rw : Int → Int} {n fr s sp p w : Int} (se : Int) (hX : Xst u b rw n fr) (hs : Shf rw n) (s1 : 0 ≤ s) (s2 : s ≤ 999) (sp1 : 0 ≤ sp) (sp2 : sp ≤ 999) (p1 : 1 ≤ p) (p2 : p ≤ 9) (w1 : 1 ≤ w) (w2 : w ≤ 9) : ∃ u', mX10_openTable NF b u (I s) (I sp) (I p) (I w) = some u' ∧ KX u u' ∧ Tab u' s sp p n n (Pw rw) (Lw (-1) (-1) se fr rw p w) := by
  have hb := NF_big
  have n1 := hX.2.1
  have n2 := hX.2.2.1
  have eo : mX9_open NF u (I s) (I sp) (I p) (I n) = some (siX (siX (siX (siX u 15 (I s)) 16 (I sp)) 17 (I p)) 18 (I n)) := by
    unfold mX9_open
    simp only [nm]
    simp (disch := omega) only [mmin_eq, mmax_eq, I_lit, Option.bind_some, I_lt]
    rw [if_neg (show ¬ 999 < sp by omega), if_neg (show ¬ 10 < n by omega)]
    simp (disch := omega) only [I_lt]
    have a1 : (if 0 < sp then I sp else I 0) = I sp := by
      split
      · rfl
      · rw [show sp = 0 by omega]
    have a2 : (if 1 < p then I p else I 1) = I p := by
      split
      · rfl
      · rw [show p = 1 by omega]
    have a3 : (if 0 < n then I n else I 0) = I n := by
      split
      · rfl
      · rw [show n = 0 by omega]
    rw [a1, a2, a3]
  have hk : KX u (siX (siX (siX (siX u 15 (I s)) 16 (I sp)) 17 (I p)) 18 (I n)) := ⟨fun k q => by
    show va_up (va_up (va_up (va_up u.1 15 _) 16 _) 17 _) 18 _ k = u.1 k
    rw [vu_ne (by omega), vu_ne (by omega), vu_ne (by omega), vu_ne (by omega)], fun a q => rfl⟩
  obtain ⟨u', f1, f2, f3⟩ := x_open20 NF (by omega) (b := b) se hs s1 s2 sp1 sp2 p1 p2 w1 w2 n.toNat NF 0 _ (by omega) (by omega) (by omega) (hX.keep hk) ⟨rfl, rfl, rfl, rfl, fun k k1 k2 => by omega⟩
  refine ⟨u', ?_, hk.trans f2, f3⟩
  unfold mX10_openTable
  rw [x_size NF hX, Option.bind_some, eo, Option.bind_some]
  exact f1
theorem x_landing (N : Nat) {u : USt} {s sp p n k t : Int} {P : Int → Int} {L : Int → Int → Int} (h : Tab u s sp p n n P L) (k1 : 0 ≤ k) (k2 : k < n) (n2 : n ≤ 10) (t1 : -100 ≤ t) (t2 : t ≤ 2000) (sp1 : 0 ≤ sp) (sp2 : sp ≤ 999) (p1 : 1 ≤ p) (p2 : p ≤ 9) : mX9_landing N u (I k) (I t) = some (I (if 0 ≤ t ∧ t + p ≤ sp then L k (s + t) else -1)) := by
  obtain ⟨t15, t16, t17, t18, hr⟩ := h
  unfold mX9_landing mX9_landing_33 mX9_landing_34 mX9_landing_51
  rw [t16, t17, t18]
  simp (disch := omega) only [I_lit, I_lt, I_le, I_add, I_neg]
  rw [if_neg (by omega), if_neg (by omega)]
  by_cases q : 0 ≤ t ∧ t + p ≤ sp
  · rw [if_neg (by omega), if_neg (by omega), if_neg (by decide), if_pos q, wr_I k1 (by omega) (by omega), rdX_L (by omega) (by omega) (by omega), ((hr k k1 k2).1 t q.1 (by omega)).1]
  · rw [if_neg q]
    (repeat' split) <;> first | rfl | (exfalso; omega) | (exfalso; exact absurd trivial (by assumption)) | simp_all
theorem Tab.keep {u u' : USt} {s sp p n j : Int} {P : Int → Int} {L : Int → Int → Int} (h : Tab u s sp p n j P L) (j2 : j ≤ 10) (e1 : u'.1 = u.1) (e2 : ∀ a, (a = 14 ∨ a = 15 ∨ (26 ≤ a ∧ a < 36)) → u'.2 a = u.2 a) : Tab u' s sp p n j P L := by
  obtain ⟨t15, t16, t17, t18, hr⟩ := h
  refine ⟨by rw [e1]; exact t15, by rw [e1]; exact t16, by rw [e1]; exact t17, by rw [e1]; exact t18, fun k k1 k2 => ?_⟩
  have := hr k k1 k2
  unfold RowT at *
  rw [e2 14 (by omega), e2 15 (by omega), e2 (26 + k.toNat) (by omega)]
  exact this
