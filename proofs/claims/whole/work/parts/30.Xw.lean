theorem tb_0 {w : Cond} (h : w ∈ k2_sels lw_privs) (g : goodWord w = true) : w ∈ gW := List.mem_filter.mpr ⟨List.mem_append_left _ h, g⟩
theorem tn_0 {w : Cond} (h : w ∈ k2_sels lw_privs) (g : isNw w = true) : w ∈ nW := List.mem_filter.mpr ⟨List.mem_append_left _ h, g⟩
theorem tb_1 {w : Cond} (h : w ∈ tables_1_1) (g : goodWord w = true) : w ∈ gW := List.mem_filter.mpr ⟨List.mem_append_right _ (List.mem_append_left _ h), g⟩
theorem tn_1 {w : Cond} (h : w ∈ tables_1_1) (g : isNw w = true) : w ∈ nW := List.mem_filter.mpr ⟨List.mem_append_right _ (List.mem_append_left _ h), g⟩
theorem tb_2 {w : Cond} (h : w ∈ tables_1_2) (g : goodWord w = true) : w ∈ gW := List.mem_filter.mpr ⟨List.mem_append_right _ (List.mem_append_right _ (List.mem_append_left _ h)), g⟩
theorem tn_2 {w : Cond} (h : w ∈ tables_1_2) (g : isNw w = true) : w ∈ nW := List.mem_filter.mpr ⟨List.mem_append_right _ (List.mem_append_right _ (List.mem_append_left _ h)), g⟩
theorem tb_3 {w : Cond} (h : w ∈ tables_1_3) (g : goodWord w = true) : w ∈ gW := List.mem_filter.mpr ⟨List.mem_append_right _ (List.mem_append_right _ (List.mem_append_right _ (List.mem_append_left _ h))), g⟩
theorem tn_3 {w : Cond} (h : w ∈ tables_1_3) (g : isNw w = true) : w ∈ nW := List.mem_filter.mpr ⟨List.mem_append_right _ (List.mem_append_right _ (List.mem_append_right _ (List.mem_append_left _ h))), g⟩
theorem tb_4 {w : Cond} (h : w ∈ tables_1_4) (g : goodWord w = true) : w ∈ gW := List.mem_filter.mpr ⟨List.mem_append_right _ (List.mem_append_right _ (List.mem_append_right _ (List.mem_append_right _ (List.mem_append_left _ h)))), g⟩
theorem tn_4 {w : Cond} (h : w ∈ tables_1_4) (g : isNw w = true) : w ∈ nW := List.mem_filter.mpr ⟨List.mem_append_right _ (List.mem_append_right _ (List.mem_append_right _ (List.mem_append_right _ (List.mem_append_left _ h)))), g⟩
theorem tb_5 {w : Cond} (h : w ∈ tables_1_5) (g : goodWord w = true) : w ∈ gW := List.mem_filter.mpr ⟨List.mem_append_right _ (List.mem_append_right _ (List.mem_append_right _ (List.mem_append_right _ (List.mem_append_right _ (List.mem_append_left _ h))))), g⟩
theorem tn_5 {w : Cond} (h : w ∈ tables_1_5) (g : isNw w = true) : w ∈ nW := List.mem_filter.mpr ⟨List.mem_append_right _ (List.mem_append_right _ (List.mem_append_right _ (List.mem_append_right _ (List.mem_append_right _ (List.mem_append_left _ h))))), g⟩
theorem tb_6 {w : Cond} (h : w ∈ tables_1_6) (g : goodWord w = true) : w ∈ gW := List.mem_filter.mpr ⟨List.mem_append_right _ (List.mem_append_right _ (List.mem_append_right _ (List.mem_append_right _ (List.mem_append_right _ (List.mem_append_right _ h))))), g⟩
theorem tn_6 {w : Cond} (h : w ∈ tables_1_6) (g : isNw w = true) : w ∈ nW := List.mem_filter.mpr ⟨List.mem_append_right _ (List.mem_append_right _ (List.mem_append_right _ (List.mem_append_right _ (List.mem_append_right _ (List.mem_append_right _ h))))), g⟩
abbrev USt : Type := (Nat → Int32) × (Nat → Nat → Int32)
/-- of a bridge: its object, its row of ends, its class, its numbers, how many ends, the ends -/
abbrev BV : Type := Nat × Nat × Nat × (Nat → Int32) × Nat × (Nat → Int32)
/-- the list: nothing yet, or its row, how many, and each -/
abbrev BSt : Type := Option (Nat × Nat × (Nat → BV))
abbrev siX (u : USt) (k : Nat) (v : Int32) : USt := (va_up u.1 k v, u.2)
abbrev saX (u : USt) (k j : Nat) (v : Int32) : USt := (u.1, va_up u.2 k (upd (u.2 k) j v))
abbrev sfX (u : USt) (k : Nat) (f : Nat → Int32) : USt := (u.1, va_up u.2 k f)
def lenX (a : Nat) : Nat := match a with
  | 2 => 20
  | 4 => 3
  | 7 => 24
  | 9 => 10
  | 11 => 24
  | 14 => 10
  | 15 => 10
  | 17 => 8
  | 19 => 610
  | 20 => 488
  | 21 => 488
  | 22 => 488
  | 23 => 488
  | 24 => 8
  | 25 => 8
  | 26 => 1000
  | 27 => 1000
  | 28 => 1000
  | 29 => 1000
  | 30 => 1000
  | 31 => 1000
  | 32 => 1000
  | 33 => 1000
  | 34 => 1000
  | 35 => 1000
  | 36 => 460
  | 37 => 460
  | 38 => 460
  | 39 => 460
  | 40 => 460
  | 41 => 460
  | 42 => 460
  | 43 => 460
  | _ => 0
abbrev okA (a : Nat) : Bool := decide (0 < lenX a)
abbrev tX (cI cO cR : ClassId) : List (ClassId × FieldType) := [(cI, .int), (cO, .object "java/lang/Object"), (cR, .array .int)]
def bCell (v : BV) : Nat × va_E := (v.1, .inr (v.2.2.1, [.int (v.2.2.2.1 0), .int (v.2.2.2.1 1), .int (v.2.2.2.1 2), .int (v.2.2.2.1 3), .ref v.2.1, .int (v.2.2.2.1 5)]))
def eCell (cI : ClassId) (v : BV) : Nat × va_E := (v.2.1, .inl (cI, v.2.2.2.2.1, .inl v.2.2.2.2.2))
def bL (cI : ClassId) : Nat → (Nat → BV) → va_W
  | 0, _ => []
  | n + 1, bv => bL cI n bv ++ [bCell (bv n), eCell cI (bv n)]
def elX (n : Nat) (bv : Nat → BV) : Nat → Option Nat := fun j => if j < n then some (bv j).1 else none
def bP (cI cO : ClassId) (b : BSt) : va_W := match b with
  | none => []
  | some x => (x.1, .inl (cO, 10, .inr (.inr (.inr (.inr (elX x.2.1 x.2.2)))))) :: bL cI x.2.1 x.2.2
def bQ (t0 : Nat) (b : BSt) : Nat := match b with
  | none => t0
  | some x => x.1
def fX (cI cR : ClassId) (q : Nat → Nat) (e : Nat) (u : USt) : va_W := [(q 0, .inr (11, [.ref (q 1), .ref (q 3), .ref (q 5), .ref (q 6), .ref (q 8), .ref (q 12), .ref (q 18), .ref (q 24), .ref (q 25), .int (u.1 19)])), (q 1, .inr (7, [.ref (q 2), .int (u.1 0)])), (q 2, .inl (cI, 20, .inl (u.2 2))), (q 3, .inr (8, [.ref (q 4), .int (u.1 1), .int (u.1 2), .int (u.1 3), .int (u.1 4), .int (u.1 5), .int (u.1 6), .int (u.1 7), .int (u.1 8)])), (q 4, .inl (cI, 3, .inl (u.2 4))), (q 5, .inr (0, [.int (u.1 9), .ref e, .int (u.1 10)])), (q 6, .inr (6, [.ref (q 7), .int (u.1 11)])), (q 7, .inl (cI, 24, .inl (u.2 7))), (q 8, .inr (5, [.ref (q 9), .ref (q 10), .int (u.1 12), .int (u.1 13)])), (q 9, .inl (cI, 10, .inl (u.2 9))), (q 10, .inr (6, [.ref (q 11), .int (u.1 14)])), (q 11, .inl (cI, 24, .inl (u.2 11))), (q 12, .inr (10, [.ref (q 13), .ref (q 14), .ref (q 15), .ref (q 16), .ref (q 17), .int (u.1 15), .int (u.1 16), .int (u.1 17), .int (u.1 18)])), (q 13, .inl (cR, 10, .inr (.inr (.inr (.inr (fun j => if j < 10 then some (q (26 + j)) else none)))))), (q 14, .inl (cI, 10, .inl (u.2 14))), (q 15, .inl (cI, 10, .inl (u.2 15))), (q 16, .inl (cR, 8, .inr (.inr (.inr (.inr (fun j => if j < 8 then some (q (36 + j)) else none)))))), (q 17, .inl (cI, 8, .inl (u.2 17))), (q 18, .inr (2, [.ref (q 19), .ref (q 20), .ref (q 21), .ref (q 22), .ref (q 23)])), (q 19, .inl (cI, 610, .inl (u.2 19))), (q 20, .inl (cI, 488, .inl (u.2 20))), (q 21, .inl (cI, 488, .inl (u.2 21))), (q 22, .inl (cI, 488, .inl (u.2 22))), (q 23, .inl (cI, 488, .inl (u.2 23))), (q 24, .inl (cI, 8, .inl (u.2 24))), (q 25, .inl (cI, 8, .inl (u.2 25))), (q 26, .inl (cI, 1000, .inl (u.2 26))), (q 27, .inl (cI, 1000, .inl (u.2 27))), (q 28, .inl (cI, 1000, .inl (u.2 28))), (q 29, .inl (cI, 1000, .inl (u.2 29))), (q 30, .inl (cI, 1000, .inl (u.2 30))), (q 31, .inl (cI, 1000, .inl (u.2 31))), (q 32, .inl (cI, 1000, .inl (u.2 32))), (q 33, .inl (cI, 1000, .inl (u.2 33))), (q 34, .inl (cI, 1000, .inl (u.2 34))), (q 35, .inl (cI, 1000, .inl (u.2 35))), (q 36, .inl (cI, 460, .inl (u.2 36))), (q 37, .inl (cI, 460, .inl (u.2 37))), (q 38, .inl (cI, 460, .inl (u.2 38))), (q 39, .inl (cI, 460, .inl (u.2 39))), (q 40, .inl (cI, 460, .inl (u.2 40))), (q 41, .inl (cI, 460, .inl (u.2 41))), (q 42, .inl (cI, 460, .inl (u.2 42))), (q 43, .inl (cI, 460, .inl (u.2 43)))]
def wX (cI cO cR : ClassId) (q : Nat → Nat) (t0 : Nat) (u : USt) (b : BSt) : va_W := fX cI cR q (bQ t0 b) u ++ bP cI cO b
theorem wX_at {cI cO cR : ClassId} {q : Nat → Nat} {t0 : Nat} {u : USt} {b : BSt} : ∀ a : Nat, okA a = true → (wX cI cO cR q t0 u b)[a]? = some (q a, .inl (cI, lenX a, .inl (u.2 a)))
  | 0, h => absurd h (by decide)
  | 1, h => absurd h (by decide)
  | 2, _ => rfl
  | 3, h => absurd h (by decide)
  | 4, _ => rfl
  | 5, h => absurd h (by decide)
  | 6, h => absurd h (by decide)
  | 7, _ => rfl
  | 8, h => absurd h (by decide)
  | 9, _ => rfl
  | 10, h => absurd h (by decide)
  | 11, _ => rfl
  | 12, h => absurd h (by decide)
  | 13, h => absurd h (by decide)
  | 14, _ => rfl
  | 15, _ => rfl
  | 16, h => absurd h (by decide)
  | 17, _ => rfl
  | 18, h => absurd h (by decide)
  | 19, _ => rfl
  | 20, _ => rfl
  | 21, _ => rfl
  | 22, _ => rfl
  | 23, _ => rfl
  | 24, _ => rfl
  | 25, _ => rfl
  | 26, _ => rfl
  | 27, _ => rfl
  | 28, _ => rfl
  | 29, _ => rfl
  | 30, _ => rfl
  | 31, _ => rfl
  | 32, _ => rfl
  | 33, _ => rfl
  | 34, _ => rfl
  | 35, _ => rfl
  | 36, _ => rfl
  | 37, _ => rfl
  | 38, _ => rfl
  | 39, _ => rfl
  | 40, _ => rfl
  | 41, _ => rfl
  | 42, _ => rfl
  | 43, _ => rfl
  | n + 44, h => absurd h (by simp [okA, lenX])
theorem wX_set {cI cO cR : ClassId} {q : Nat → Nat} {t0 : Nat} {u : USt} {b : BSt} {f : Nat → Int32} : ∀ a : Nat, okA a = true → (wX cI cO cR q t0 u b).set a (q a, .inl (cI, lenX a, .inl f)) = wX cI cO cR q t0 (sfX u a f) b
  | 0, h => absurd h (by decide)
  | 1, h => absurd h (by decide)
  | 2, _ => rfl
  | 3, h => absurd h (by decide)
  | 4, _ => rfl
  | 5, h => absurd h (by decide)
  | 6, h => absurd h (by decide)
  | 7, _ => rfl
  | 8, h => absurd h (by decide)
  | 9, _ => rfl
  | 10, h => absurd h (by decide)
  | 11, _ => rfl
  | 12, h => absurd h (by decide)
  | 13, h => absurd h (by decide)
  | 14, _ => rfl
  | 15, _ => rfl
  | 16, h => absurd h (by decide)
  | 17, _ => rfl
  | 18, h => absurd h (by decide)
  | 19, _ => rfl
  | 20, _ => rfl
  | 21, _ => rfl
  | 22, _ => rfl
  | 23, _ => rfl
  | 24, _ => rfl
  | 25, _ => rfl
  | 26, _ => rfl
  | 27, _ => rfl
  | 28, _ => rfl
  | 29, _ => rfl
  | 30, _ => rfl
  | 31, _ => rfl
  | 32, _ => rfl
  | 33, _ => rfl
  | 34, _ => rfl
  | 35, _ => rfl
  | 36, _ => rfl
  | 37, _ => rfl
  | 38, _ => rfl
  | 39, _ => rfl
  | 40, _ => rfl
  | 41, _ => rfl
  | 42, _ => rfl
  | 43, _ => rfl
  | n + 44, h => absurd h (by simp [okA, lenX])
theorem bL_len (cI : ClassId) (bv : Nat → BV) : ∀ n, (bL cI n bv).length = 2 * n
  | 0 => rfl
  | n + 1 => by
    show (bL cI n bv ++ [bCell (bv n), eCell cI (bv n)]).length = _
    rw [List.length_append, bL_len cI bv n]
    simp
    omega
theorem bL_b (cI : ClassId) (bv : Nat → BV) : ∀ n k, k < n → (bL cI n bv)[2 * k]? = some (bCell (bv k)) ∧ (bL cI n bv)[2 * k + 1]? = some (eCell cI (bv k))
  | 0, k, h => absurd h (Nat.not_lt_zero k)
  | n + 1, k, h => by
    show (bL cI n bv ++ [bCell (bv n), eCell cI (bv n)])[2 * k]? = _ ∧ (bL cI n bv ++ [bCell (bv n), eCell cI (bv n)])[2 * k + 1]? = _
    have hl := bL_len cI bv n
    rcases Nat.lt_or_ge k n with q | q
    · obtain ⟨h1, h2⟩ := bL_b cI bv n k q
      rw [List.getElem?_append_left (by omega), List.getElem?_append_left (by omega)]
      exact ⟨h1, h2⟩
    · have e : k = n := by omega
      subst e
      rw [List.getElem?_append_right (by omega), List.getElem?_append_right (by omega), hl]
      simp
theorem bL_congr (cI : ClassId) {bv bv' : Nat → BV} : ∀ n, (∀ k, k < n → bv k = bv' k) → bL cI n bv = bL cI n bv'
  | 0, _ => rfl
  | n + 1, h => by
    show bL cI n bv ++ [bCell (bv n), eCell cI (bv n)] = bL cI n bv' ++ [bCell (bv' n), eCell cI (bv' n)]
    rw [bL_congr cI n (fun k hk => h k (by omega)), h n (by omega)]
theorem bL_setB (cI : ClassId) (bv : Nat → BV) (w : BV) : ∀ n k, k < n → eCell cI w = eCell cI (bv k) → (bL cI n bv).set (2 * k) (bCell w) = bL cI n (va_up bv k w)
  | 0, k, h, _ => absurd h (Nat.not_lt_zero k)
  | n + 1, k, h, e => by
    show (bL cI n bv ++ [bCell (bv n), eCell cI (bv n)]).set (2 * k) (bCell w) = bL cI n (va_up bv k w) ++ [bCell (va_up bv k w n), eCell cI (va_up bv k w n)]
    have hl := bL_len cI bv n
    rcases Nat.lt_or_ge k n with q | q
    · rw [List.set_append_left _ _ (by omega), bL_setB cI bv w n k q e]
      have : va_up bv k w n = bv n := by unfold va_up; rw [if_neg (by omega)]
      rw [this]
    · have ek : k = n := by omega
      subst ek
      rw [List.set_append_right _ _ (by omega), hl, bL_congr cI k (bv' := va_up bv k w) (fun j hj => by unfold va_up; rw [if_neg (by omega)])]
      have : va_up bv k w k = w := by unfold va_up; rw [if_pos rfl]
      rw [this, ← e]
      simp
theorem wX_tail (cI cO cR : ClassId) (q : Nat → Nat) (t0 : Nat) (u : USt) (b : BSt) : ∃ l : va_W, l.length = 44 ∧ wX cI cO cR q t0 u b = l ++ bP cI cO b := ⟨_, rfl, rfl⟩
theorem wX_b {cI cO cR : ClassId} {q : Nat → Nat} {t0 : Nat} {u : USt} {x : Nat × Nat × (Nat → BV)} {k : Nat} (h : k < x.2.1) : (wX cI cO cR q t0 u (some x))[45 + 2 * k]? = some (bCell (x.2.2 k)) ∧ (wX cI cO cR q t0 u (some x))[46 + 2 * k]? = some (eCell cI (x.2.2 k)) := by
  obtain ⟨l, hl, e⟩ := wX_tail cI cO cR q t0 u (some x)
  obtain ⟨h1, h2⟩ := bL_b cI x.2.2 x.2.1 k h
  rw [e, List.getElem?_append_right (by omega), List.getElem?_append_right (by omega), hl, show 45 + 2 * k - 44 = 2 * k + 1 by omega, show 46 + 2 * k - 44 = (2 * k + 1) + 1 by omega]
  exact ⟨h1, h2⟩
theorem wX_el {cI cO cR : ClassId} {q : Nat → Nat} {t0 : Nat} {u : USt} {x : Nat × Nat × (Nat → BV)} : (wX cI cO cR q t0 u (some x))[44]? = some (x.1, .inl (cO, 10, .inr (.inr (.inr (.inr (elX x.2.1 x.2.2)))))) := rfl
