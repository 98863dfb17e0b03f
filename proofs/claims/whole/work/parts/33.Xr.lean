def rdX {α : Type} (u : USt) (a : Nat) (i : Int32) (k : Int32 → Option α) : Option α := if okA a = true ∧ 0 ≤ i.toInt ∧ i.toInt < lenX a then k (u.2 a i.toNatClampNeg) else none
def wrX {α : Type} (a : Nat) (i : Int32) (k : Nat → Option α) : Option α := if okA a = true ∧ 0 ≤ i.toInt ∧ i.toInt < lenX a then k i.toNatClampNeg else none
def alX {α : Type} (a : Nat) (k : Int32 → Option α) : Option α := if okA a = true then k (nI (lenX a)) else none
def okc (c : Nat) : Bool := c == 1 || c == 3 || c == 4 || c == 9
/-- the bridge k, if there is one -/
def bwt {α : Type} (b : BSt) (k : Nat) (f : BV → Option α) : Option α := match b with
  | none => none
  | some x => if k < x.2.1 ∧ okc (x.2.2 k).2.2.1 = true then f (x.2.2 k) else none
def bfi {α : Type} (b : BSt) (k j : Nat) (f : Int32 → Option α) : Option α := bwt b k (fun v => f (v.2.2.2.1 j))
def bln {α : Type} (b : BSt) (k : Nat) (f : Int32 → Option α) : Option α := bwt b k (fun v => f (nI v.2.2.2.2.1))
def ben {α : Type} (b : BSt) (k : Nat) (i : Int32) (f : Int32 → Option α) : Option α := bwt b k (fun v => if 0 ≤ i.toInt ∧ i.toInt < v.2.2.2.2.1 then f (v.2.2.2.2.2 i.toNatClampNeg) else none)
def bcl {α : Type} (b : BSt) (k : Nat) (f : Nat → Option α) : Option α := bwt b k (fun v => f v.2.2.1)
def shv (v : BV) (x : Int32) : BV := (v.1, v.2.1, v.2.2.1, va_up v.2.2.2.1 5 x, v.2.2.2.2)
def bset (b : BSt) (k : Nat) (x : Int32) : BSt := match b with
  | none => none
  | some y => some (y.1, y.2.1, va_up y.2.2 k (shv (y.2.2 k) x))
def bsh {α : Type} (b : BSt) (k : Nat) (x : Int32) (f : BSt → Option α) : Option α := bwt b k (fun _ => f (bset b k x))
def bget {α : Type} (b : BSt) (i : Int32) (f : Nat → Option α) : Option α := match b with
  | none => none
  | some x => if 0 ≤ i.toInt ∧ i.toInt < x.2.1 ∧ i.toInt < 10 then f i.toNatClampNeg else none
def bA (b : BSt) (k : Nat) : Nat := match b with
  | none => 0
  | some x => (x.2.2 k).1
def bE (b : BSt) (k : Nat) : Nat := match b with
  | none => 0
  | some x => (x.2.2 k).2.1
def bt3 {α β γ δ : Type} (x : Option (α × β × γ)) (k : α → β → γ → Option δ) : Option δ := x.bind (fun p => k p.1 p.2.1 p.2.2)
theorem j_bind3 {α β γ δ : Type} {rr : δ} {P : Prop} {x : Option (α × β × γ)} {k : α → β → γ → Option δ} (hm : bt3 x k = some rr) (kk : ∀ a b c, x = some (a, b, c) → k a b c = some rr → P) : P := by
  obtain ⟨y, h1, h2⟩ := bd_some hm
  exact kk y.1 y.2.1 y.2.2 h1 h2
theorem rdX_some {α : Type} {u : USt} {a : Nat} {i : Int32} {k : Int32 → Option α} {r : α} (h : rdX u a i k = some r) : okA a = true ∧ vp_in i (lenX a) ∧ k (u.2 a i.toNatClampNeg) = some r := by
  unfold rdX at h
  split at h
  · rename_i q
    exact ⟨q.1, vp_in_iff.mpr q.2, h⟩
  · cases h
theorem wrX_some {α : Type} {a : Nat} {i : Int32} {k : Nat → Option α} {r : α} (h : wrX a i k = some r) : okA a = true ∧ vp_in i (lenX a) ∧ k i.toNatClampNeg = some r := by
  unfold wrX at h
  split at h
  · rename_i q
    exact ⟨q.1, vp_in_iff.mpr q.2, h⟩
  · cases h
theorem alX_some {α : Type} {a : Nat} {k : Int32 → Option α} {r : α} (h : alX a k = some r) : okA a = true ∧ k (nI (lenX a)) = some r := by
  unfold alX at h
  split at h
  · exact ⟨by assumption, h⟩
  · cases h
theorem bwt_some {α : Type} {b : BSt} {k : Nat} {f : BV → Option α} {r : α} (h : bwt b k f = some r) : ∃ x, b = some x ∧ k < x.2.1 ∧ okc (x.2.2 k).2.2.1 = true ∧ f (x.2.2 k) = some r := by
  cases b with
  | none => cases h
  | some x =>
    unfold bwt at h
    dsimp only at h
    split at h
    · rename_i q
      exact ⟨x, rfl, q.1, q.2, h⟩
    · cases h
theorem bget_some {α : Type} {b : BSt} {i : Int32} {f : Nat → Option α} {r : α} (h : bget b i f = some r) : ∃ x, b = some x ∧ i.toNatClampNeg < x.2.1 ∧ vp_in i 10 ∧ f i.toNatClampNeg = some r := by
  cases b with
  | none => cases h
  | some x =>
    unfold bget at h
    dsimp only at h
    split at h
    · rename_i q
      refine ⟨x, rfl, ?_, vp_in_iff.mpr ⟨q.1, q.2.2⟩, h⟩
      have h1 : (i.toNatClampNeg : Int) = i.toInt := by
        have := Int.toNat_of_nonneg q.1
        exact this
      omega
    · cases h
theorem okc_or {c : Nat} (h : okc c = true) : c = 1 ∨ c = 3 ∨ c = 4 ∨ c = 9 := by
  simp only [okc, Bool.or_eq_true, beq_iff_eq] at h
  omega
theorem bCell_at {ws : va_W} {n c : Nat} {v : BV} (h : ws[n]? = some (bCell v)) (e : v.2.2.1 = c) : ws[n]? = some (v.1, .inr (c, [.int (v.2.2.2.1 0), .int (v.2.2.2.1 1), .int (v.2.2.2.1 2), .int (v.2.2.2.1 3), .ref v.2.1, .int (v.2.2.2.1 5)])) := by
  rw [h, ← e]
  rfl
theorem jb01 {x : Int32} (h : x = 0 ∨ x = 1) : fits .boolean (.int x) = true := by
  rcases h with rfl | rfl <;> decide
theorem wX_setB {cI cO cR : ClassId} {q : Nat → Nat} {t0 : Nat} {u : USt} {x : Nat × Nat × (Nat → BV)} {k : Nat} {s : Int32} (h : k < x.2.1) : (wX cI cO cR q t0 u (some x)).set (45 + 2 * k) (bCell (shv (x.2.2 k) s)) = wX cI cO cR q t0 u (bset (some x) k s) := by
  obtain ⟨l, hl, e⟩ := wX_tail cI cO cR q t0 u (some x)
  have e2 : wX cI cO cR q t0 u (bset (some x) k s) = l ++ bP cI cO (bset (some x) k s) := by
    have h1 : l ++ bP cI cO (some x) = wX cI cO cR q t0 u (some x) := e.symm
    have h2 := (List.append_inj (t₁ := bP cI cO (some x)) (t₂ := bP cI cO (some x)) (show l ++ bP cI cO (some x) = _ ++ bP cI cO (some x) from h1) (by rw [hl]; rfl)).1
    rw [h2]
    rfl
  rw [e, e2, List.set_append_right _ _ (by omega), hl, show 45 + 2 * k - 44 = 2 * k + 1 by omega]
  congr 1
  show ((x.1, .inl (cO, 10, .inr (.inr (.inr (.inr (elX x.2.1 x.2.2)))))) :: bL cI x.2.1 x.2.2).set (2 * k + 1) (bCell (shv (x.2.2 k) s)) = (x.1, .inl (cO, 10, .inr (.inr (.inr (.inr (elX x.2.1 (va_up x.2.2 k (shv (x.2.2 k) s)))))))) :: bL cI x.2.1 (va_up x.2.2 k (shv (x.2.2 k) s))
  have hel : elX x.2.1 (va_up x.2.2 k (shv (x.2.2 k) s)) = elX x.2.1 x.2.2 := by
    funext j
    unfold elX
    by_cases hj : j < x.2.1
    · rw [if_pos hj, if_pos hj]
      by_cases ek : j = k
      · subst ek
        unfold va_up
        rw [if_pos rfl]
        rfl
      · unfold va_up
        rw [if_neg ek]
    · rw [if_neg hj, if_neg hj]
  rw [List.set_cons_succ, bL_setB cI x.2.2 (shv (x.2.2 k) s) x.2.1 k h rfl, hel]
theorem bCell_put {v : BV} {c : Nat} {x : Int32} (e : v.2.2.1 = c) : ((v.1, .inr (c, [.int (v.2.2.2.1 0), .int (v.2.2.2.1 1), .int (v.2.2.2.1 2), .int (v.2.2.2.1 3), .ref v.2.1, .int (v.2.2.2.1 5)].set 5 (.int x))) : Nat × va_E) = bCell (shv v x) := by
  subst e
  rfl
section XR
variable {l : Launch} {R : Room} {D : va_G} {cI cO cR : ClassId} {q : Nat → Nat} {t0 : Nat} {u : USt} {b : BSt} {G : Gx} {cc : ByteArray} {nL : Nat} {own : String} {cs : Nat × Nat} {lv : List (Nat × Value)} {st : List Value} {pc : Nat} {β : Type} {rr : β}
theorem jX_L {a : Nat} {i : Int32} {k : Int32 → Option β} (C : jC l R D (tX cI cO cR) G cc nL own) (d : decode cc pc = .ok (.iaload, 1)) (hm : rdX u a i k = some rr) (kk : ∀ v : Int32, k v = some rr → J l R D G cs (wX cI cO cR q t0 u b) lv (.int v :: st) (pc + 1)) : J l R D G cs (wX cI cO cR q t0 u b) lv (.int i :: .ref (q a) :: st) pc := by
  obtain ⟨h1, h2, h3⟩ := rdX_some hm
  exact j_iald C a 0 (wX_at a h1) rfl h2 d (kk _ h3)
theorem jX_S {a : Nat} {i x : Int32} {k : USt → Option β} (C : jC l R D (tX cI cO cR) G cc nL own) (d : decode cc pc = .ok (.iastore, 1)) (hm : wrX a i (fun j => nm (saX u a j x) k) = some rr) (kk : ∀ v : USt, k v = some rr → J l R D G cs (wX cI cO cR q t0 v b) lv st (pc + 1)) : J l R D G cs (wX cI cO cR q t0 u b) lv (.int x :: .int i :: .ref (q a) :: st) pc := by
  obtain ⟨h1, h2, h3⟩ := wrX_some hm
  exact j_iast C a 0 (wX_at a h1) rfl h2 (wX_set a h1) d (kk _ h3)
theorem jX_len {a : Nat} {k : Int32 → Option β} (C : jC l R D (tX cI cO cR) G cc nL own) (d : decode cc pc = .ok (.arraylength, 1)) (hm : alX a k = some rr) (kk : ∀ v : Int32, k v = some rr → J l R D G cs (wX cI cO cR q t0 u b) lv (.int v :: st) (pc + 1)) : J l R D G cs (wX cI cO cR q t0 u b) lv (.ref (q a) :: st) pc := by
  obtain ⟨h1, h3⟩ := alX_some hm
  exact j_alen C a 0 (wX_at a h1) rfl rfl d (kk _ h3)
theorem jX_o13 {i : Int32} {k : Nat → Option β} (C : jC l R D (tX cI cO cR) G cc nL own) (d : decode cc pc = .ok (.aaload, 1)) (hm : wr 10 i k = some rr) (kk : ∀ j : Nat, k j = some rr → J l R D G cs (wX cI cO cR q t0 u b) lv (.ref (q (26 + j)) :: st) (pc + 1)) : J l R D G cs (wX cI cO cR q t0 u b) lv (.int i :: .ref (q 13) :: st) pc := by
  obtain ⟨h2, h3⟩ := wr_some hm
  have hlt : i.toNatClampNeg < 10 := Nat.not_le.mp fun q => h2 (Or.inr q)
  refine j_aald (t0 := 2) C 13 rfl rfl rfl h2 d ?_
  rw [if_pos hlt]
  exact kk _ h3
theorem jX_o16 {i : Int32} {k : Nat → Option β} (C : jC l R D (tX cI cO cR) G cc nL own) (d : decode cc pc = .ok (.aaload, 1)) (hm : wr 8 i k = some rr) (kk : ∀ j : Nat, k j = some rr → J l R D G cs (wX cI cO cR q t0 u b) lv (.ref (q (36 + j)) :: st) (pc + 1)) : J l R D G cs (wX cI cO cR q t0 u b) lv (.int i :: .ref (q 16) :: st) pc := by
  obtain ⟨h2, h3⟩ := wr_some hm
  have hlt : i.toNatClampNeg < 8 := Nat.not_le.mp fun q => h2 (Or.inr q)
  refine j_aald (t0 := 2) C 16 rfl rfl rfl h2 d ?_
  rw [if_pos hlt]
  exact kk _ h3
theorem jX_el {i : Int32} {k : Nat → Option β} (C : jC l R D (tX cI cO cR) G cc nL own) (d : decode cc pc = .ok (.aaload, 1)) (hm : bget b i k = some rr) (kk : ∀ j : Nat, k j = some rr → J l R D G cs (wX cI cO cR q t0 u b) lv (.ref (bA b j) :: st) (pc + 1)) : J l R D G cs (wX cI cO cR q t0 u b) lv (.int i :: .ref (bQ t0 b) :: st) pc := by
  obtain ⟨x, rfl, h1, h2, h3⟩ := bget_some hm
  refine j_aald (t0 := 1) C 44 wX_el rfl rfl h2 d ?_
  unfold elX
  rw [if_pos h1]
  exact kk _ h3
theorem jX_b0 {k index : Nat} {K : Int32 → Option β} (C : jC l R D (tX cI cO cR) G cc nL own) (hl : Cond.fieldLink own index "NineBridges$Bridge" "pivot" "I" ∈ gW) (d : decode cc pc = .ok (.getfield index, 3)) (hm : bfi b k 0 K = some rr) (kk : ∀ v : Int32, K v = some rr → J l R D G cs (wX cI cO cR q t0 u b) lv (.int v :: st) (pc + 3)) : J l R D G cs (wX cI cO cR q t0 u b) lv (.ref (bA b k) :: st) pc := by
  obtain ⟨x, rfl, hk, hc, hm⟩ := bwt_some hm
  have he := (wX_b (cI := cI) (cO := cO) (cR := cR) (q := q) (t0 := t0) (u := u) hk).1
  have kk := kk _ hm
  rcases okc_or hc with e | e | e | e
  · exact j_get C iX0 (45 + 2 * k) (bCell_at he e) rfl 0 (by decide) hl rfl rfl d kk
  · exact j_get C iX2 (45 + 2 * k) (bCell_at he e) rfl 0 (by decide) hl rfl rfl d kk
  · exact j_get C iX3 (45 + 2 * k) (bCell_at he e) rfl 0 (by decide) hl rfl rfl d kk
  · exact j_get C iX8 (45 + 2 * k) (bCell_at he e) rfl 0 (by decide) hl rfl rfl d kk
theorem jX_b1 {k index : Nat} {K : Int32 → Option β} (C : jC l R D (tX cI cO cR) G cc nL own) (hl : Cond.fieldLink own index "NineBridges$Bridge" "stand" "I" ∈ gW) (d : decode cc pc = .ok (.getfield index, 3)) (hm : bfi b k 1 K = some rr) (kk : ∀ v : Int32, K v = some rr → J l R D G cs (wX cI cO cR q t0 u b) lv (.int v :: st) (pc + 3)) : J l R D G cs (wX cI cO cR q t0 u b) lv (.ref (bA b k) :: st) pc := by
  obtain ⟨x, rfl, hk, hc, hm⟩ := bwt_some hm
  have he := (wX_b (cI := cI) (cO := cO) (cR := cR) (q := q) (t0 := t0) (u := u) hk).1
  have kk := kk _ hm
  rcases okc_or hc with e | e | e | e
  · exact j_get C iX0 (45 + 2 * k) (bCell_at he e) rfl 1 (by decide) hl rfl rfl d kk
  · exact j_get C iX2 (45 + 2 * k) (bCell_at he e) rfl 1 (by decide) hl rfl rfl d kk
  · exact j_get C iX3 (45 + 2 * k) (bCell_at he e) rfl 1 (by decide) hl rfl rfl d kk
  · exact j_get C iX8 (45 + 2 * k) (bCell_at he e) rfl 1 (by decide) hl rfl rfl d kk
theorem jX_b2 {k index : Nat} {K : Int32 → Option β} (C : jC l R D (tX cI cO cR) G cc nL own) (hl : Cond.fieldLink own index "NineBridges$Bridge" "turn" "I" ∈ gW) (d : decode cc pc = .ok (.getfield index, 3)) (hm : bfi b k 2 K = some rr) (kk : ∀ v : Int32, K v = some rr → J l R D G cs (wX cI cO cR q t0 u b) lv (.int v :: st) (pc + 3)) : J l R D G cs (wX cI cO cR q t0 u b) lv (.ref (bA b k) :: st) pc := by
  obtain ⟨x, rfl, hk, hc, hm⟩ := bwt_some hm
  have he := (wX_b (cI := cI) (cO := cO) (cR := cR) (q := q) (t0 := t0) (u := u) hk).1
  have kk := kk _ hm
  rcases okc_or hc with e | e | e | e
  · exact j_get C iX0 (45 + 2 * k) (bCell_at he e) rfl 2 (by decide) hl rfl rfl d kk
  · exact j_get C iX2 (45 + 2 * k) (bCell_at he e) rfl 2 (by decide) hl rfl rfl d kk
  · exact j_get C iX3 (45 + 2 * k) (bCell_at he e) rfl 2 (by decide) hl rfl rfl d kk
  · exact j_get C iX8 (45 + 2 * k) (bCell_at he e) rfl 2 (by decide) hl rfl rfl d kk
theorem jX_b3 {k index : Nat} {K : Int32 → Option β} (C : jC l R D (tX cI cO cR) G cc nL own) (hl : Cond.fieldLink own index "NineBridges$Bridge" "bears" "I" ∈ gW) (d : decode cc pc = .ok (.getfield index, 3)) (hm : bfi b k 3 K = some rr) (kk : ∀ v : Int32, K v = some rr → J l R D G cs (wX cI cO cR q t0 u b) lv (.int v :: st) (pc + 3)) : J l R D G cs (wX cI cO cR q t0 u b) lv (.ref (bA b k) :: st) pc := by
  obtain ⟨x, rfl, hk, hc, hm⟩ := bwt_some hm
  have he := (wX_b (cI := cI) (cO := cO) (cR := cR) (q := q) (t0 := t0) (u := u) hk).1
  have kk := kk _ hm
  rcases okc_or hc with e | e | e | e
  · exact j_get C iX0 (45 + 2 * k) (bCell_at he e) rfl 3 (by decide) hl rfl rfl d kk
  · exact j_get C iX2 (45 + 2 * k) (bCell_at he e) rfl 3 (by decide) hl rfl rfl d kk
  · exact j_get C iX3 (45 + 2 * k) (bCell_at he e) rfl 3 (by decide) hl rfl rfl d kk
  · exact j_get C iX8 (45 + 2 * k) (bCell_at he e) rfl 3 (by decide) hl rfl rfl d kk
theorem jX_b4 {k index : Nat} {K : Option β} (C : jC l R D (tX cI cO cR) G cc nL own) (hl : Cond.fieldLink own index "NineBridges$Bridge" "ends" "[I" ∈ gW) (d : decode cc pc = .ok (.getfield index, 3)) (hm : bwt b k (fun _ => K) = some rr) (kk : K = some rr → J l R D G cs (wX cI cO cR q t0 u b) lv (.ref (bE b k) :: st) (pc + 3)) : J l R D G cs (wX cI cO cR q t0 u b) lv (.ref (bA b k) :: st) pc := by
  obtain ⟨x, rfl, hk, hc, hm⟩ := bwt_some hm
  have he := (wX_b (cI := cI) (cO := cO) (cR := cR) (q := q) (t0 := t0) (u := u) hk).1
  have kk := kk hm
  rcases okc_or hc with e | e | e | e
  · exact j_get C iX0 (45 + 2 * k) (bCell_at he e) rfl 4 (by decide) hl rfl rfl d kk
  · exact j_get C iX2 (45 + 2 * k) (bCell_at he e) rfl 4 (by decide) hl rfl rfl d kk
  · exact j_get C iX3 (45 + 2 * k) (bCell_at he e) rfl 4 (by decide) hl rfl rfl d kk
  · exact j_get C iX8 (45 + 2 * k) (bCell_at he e) rfl 4 (by decide) hl rfl rfl d kk
theorem jX_b5 {k index : Nat} {K : Int32 → Option β} (C : jC l R D (tX cI cO cR) G cc nL own) (hl : Cond.fieldLink own index "NineBridges$Bridge" "shift" "I" ∈ gW) (d : decode cc pc = .ok (.getfield index, 3)) (hm : bfi b k 5 K = some rr) (kk : ∀ v : Int32, K v = some rr → J l R D G cs (wX cI cO cR q t0 u b) lv (.int v :: st) (pc + 3)) : J l R D G cs (wX cI cO cR q t0 u b) lv (.ref (bA b k) :: st) pc := by
  obtain ⟨x, rfl, hk, hc, hm⟩ := bwt_some hm
  have he := (wX_b (cI := cI) (cO := cO) (cR := cR) (q := q) (t0 := t0) (u := u) hk).1
  have kk := kk _ hm
  rcases okc_or hc with e | e | e | e
  · exact j_get C iX0 (45 + 2 * k) (bCell_at he e) rfl 5 (by decide) hl rfl rfl d kk
  · exact j_get C iX2 (45 + 2 * k) (bCell_at he e) rfl 5 (by decide) hl rfl rfl d kk
  · exact j_get C iX3 (45 + 2 * k) (bCell_at he e) rfl 5 (by decide) hl rfl rfl d kk
  · exact j_get C iX8 (45 + 2 * k) (bCell_at he e) rfl 5 (by decide) hl rfl rfl d kk
theorem jX_bF2 {k index : Nat} {K : Int32 → Option β} (C : jC l R D (tX cI cO cR) G cc nL own) (hl : Cond.fieldLink own index "NineBridges$Frosty" "turn" "I" ∈ gW) (hs : Cond.sameField "NineBridges$Frosty" "NineBridges$Bridge" "turn" "I" ∈ gW) (d : decode cc pc = .ok (.getfield index, 3)) (hm : bfi b k 2 K = some rr) (kk : ∀ v : Int32, K v = some rr → J l R D G cs (wX cI cO cR q t0 u b) lv (.int v :: st) (pc + 3)) : J l R D G cs (wX cI cO cR q t0 u b) lv (.ref (bA b k) :: st) pc := by
  obtain ⟨x, rfl, hk, hc, hm⟩ := bwt_some hm
  have he := (wX_b (cI := cI) (cO := cO) (cR := cR) (q := q) (t0 := t0) (u := u) hk).1
  have kk := kk _ hm
  rcases okc_or hc with e | e | e | e
  · exact j_getS C iX0 (45 + 2 * k) (bCell_at he e) rfl 2 (by decide) hl hs rfl d kk
  · exact j_getS C iX2 (45 + 2 * k) (bCell_at he e) rfl 2 (by decide) hl hs rfl d kk
  · exact j_getS C iX3 (45 + 2 * k) (bCell_at he e) rfl 2 (by decide) hl hs rfl d kk
  · exact j_getS C iX8 (45 + 2 * k) (bCell_at he e) rfl 2 (by decide) hl hs rfl d kk
theorem jX_bp5 {k index : Nat} {x : Int32} {K : BSt → Option β} (C : jC l R D (tX cI cO cR) G cc nL own) (hl : Cond.fieldLink own index "NineBridges$Bridge" "shift" "I" ∈ gW) (d : decode cc pc = .ok (.putfield index, 3)) (hm : bsh b k x K = some rr) (kk : ∀ b' : BSt, K b' = some rr → J l R D G cs (wX cI cO cR q t0 u b') lv st (pc + 3)) : J l R D G cs (wX cI cO cR q t0 u b) lv (.int x :: .ref (bA b k) :: st) pc := by
  obtain ⟨y, rfl, hk, hc, hm⟩ := bwt_some hm
  have he := (wX_b (cI := cI) (cO := cO) (cR := cR) (q := q) (t0 := t0) (u := u) hk).1
  have kk := kk _ hm
  have hw := wX_setB (cI := cI) (cO := cO) (cR := cR) (q := q) (t0 := t0) (u := u) (s := x) hk
  rcases okc_or hc with e | e | e | e
  · exact j_put (ty := .int) C iX0 tyX0 tyX0_ok nmX0 (45 + 2 * k) (bCell_at he e) rfl 5 (by decide) hl rfl rfl (by decide +kernel) rfl rfl (Nat.le_of_ble_eq_true rfl) ((congrArg (fun z => List.set _ _ z) (bCell_put e)).trans hw) d kk
  · exact j_put (ty := .int) C iX2 tyX2 tyX2_ok nmX2 (45 + 2 * k) (bCell_at he e) rfl 5 (by decide) hl rfl rfl (by decide +kernel) rfl rfl (Nat.le_of_ble_eq_true rfl) ((congrArg (fun z => List.set _ _ z) (bCell_put e)).trans hw) d kk
  · exact j_put (ty := .int) C iX3 tyX3 tyX3_ok nmX3 (45 + 2 * k) (bCell_at he e) rfl 5 (by decide) hl rfl rfl (by decide +kernel) rfl rfl (Nat.le_of_ble_eq_true rfl) ((congrArg (fun z => List.set _ _ z) (bCell_put e)).trans hw) d kk
  · exact j_put (ty := .int) C iX8 tyX8 tyX8_ok nmX8 (45 + 2 * k) (bCell_at he e) rfl 5 (by decide) hl rfl rfl (by decide +kernel) rfl rfl (Nat.le_of_ble_eq_true rfl) ((congrArg (fun z => List.set _ _ z) (bCell_put e)).trans hw) d kk
theorem jX_bln {k : Nat} {K : Int32 → Option β} (C : jC l R D (tX cI cO cR) G cc nL own) (d : decode cc pc = .ok (.arraylength, 1)) (hm : bln b k K = some rr) (kk : ∀ v : Int32, K v = some rr → J l R D G cs (wX cI cO cR q t0 u b) lv (.int v :: st) (pc + 1)) : J l R D G cs (wX cI cO cR q t0 u b) lv (.ref (bE b k) :: st) pc := by
  obtain ⟨x, rfl, hk, hc, hm⟩ := bwt_some hm
  have he := (wX_b (cI := cI) (cO := cO) (cR := cR) (q := q) (t0 := t0) (u := u) hk).2
  exact j_alen C (46 + 2 * k) 0 he rfl rfl d (kk _ hm)
theorem jX_ben {k : Nat} {i : Int32} {K : Int32 → Option β} (C : jC l R D (tX cI cO cR) G cc nL own) (d : decode cc pc = .ok (.iaload, 1)) (hm : ben b k i K = some rr) (kk : ∀ v : Int32, K v = some rr → J l R D G cs (wX cI cO cR q t0 u b) lv (.int v :: st) (pc + 1)) : J l R D G cs (wX cI cO cR q t0 u b) lv (.int i :: .ref (bE b k) :: st) pc := by
  obtain ⟨x, rfl, hk, hc, hm⟩ := bwt_some hm
  have he := (wX_b (cI := cI) (cO := cO) (cR := cR) (q := q) (t0 := t0) (u := u) hk).2
  split at hm
  · rename_i hi
    exact j_iald C (46 + 2 * k) 0 he rfl (vp_in_iff.mpr hi) d (kk _ hm)
  · cases hm
theorem jX_cp {a a' index : Nat} {n : Int32} {K : USt → Option β} (C : jC l R D (tX cI cO cR) G cc nL own) (hlink : Cond.methodLink own index arraycopyName ∈ gW) (hnat : Cond.native arraycopyName ∈ gW) (hstat : Cond.static arraycopyName ∈ gW) (hini : Cond.initialized "java/lang/System" ∈ gW) (hframes : 1 ≤ R.frames) (hlocals : (st.map fun v => v.category).sum + (nativeFrameWords "java/lang/System" "arraycopy" 5 + 11) ≤ R.locals) (d : decode cc pc = .ok (.invokestatic index, 3)) (hm : gd (okA a = true ∧ okA a' = true ∧ 0 ≤ n.toInt ∧ n.toInt ≤ lenX a ∧ n.toInt ≤ lenX a') (nm (sfX u a' (va_cpy (u.2 a) (u.2 a') 0 0 n.toNatClampNeg)) K) = some rr) (kk : ∀ v : USt, K v = some rr → J l R D G cs (wX cI cO cR q t0 v b) lv st (pc + 3)) : J l R D G cs (wX cI cO cR q t0 u b) lv (.int n :: .int 0 :: .ref (q a') :: .int 0 :: .ref (q a) :: st) pc := by
  obtain ⟨⟨h1, h2, h3, h4, h5⟩, hm⟩ := gd_some hm
  have hz : (0 : Int32).toNatClampNeg = 0 := rfl
  have hn : ((n.toNatClampNeg : Nat) : Int) = n.toInt := Int.toNat_of_nonneg h3
  have hn0 : ¬ n < 0 := fun h => by
    have h6 := Int32.lt_iff_toInt_lt.mp h
    have h7 : (0 : Int32).toInt = 0 := rfl
    omega
  exact j_copyi C hlink hnat hstat hini a a' 0 0 (wX_at a h1) (wX_at a' h2) rfl rfl (by decide) (by decide) hn0 (by rw [hz]; omega) (by rw [hz]; omega) hframes hlocals (wX_set a' h2) d (kk _ hm)
def ivFixed (c : Nat) : Int32 := if c = 3 then 1 else 0
theorem jX_iFixed {k index : Nat} {K : Int32 → Option β} (C : jC l R D (tX cI cO cR) G cc nL own) (hl : Cond.classLink own index "NineBridges$Fixed" ∈ gW) (d : decode cc pc = .ok (.instanceof index, 3)) (hm : bcl b k (fun c => nm (ivFixed c) K) = some rr) (kk : ∀ v : Int32, K v = some rr → J l R D G cs (wX cI cO cR q t0 u b) lv (.int v :: st) (pc + 3)) : J l R D G cs (wX cI cO cR q t0 u b) lv (.ref (bA b k) :: st) pc := by
  obtain ⟨x, rfl, hk, hc, hm⟩ := bwt_some hm
  have he := (wX_b (cI := cI) (cO := cO) (cR := cR) (q := q) (t0 := t0) (u := u) hk).1
  rcases okc_or hc with e | e | e | e
  · exact j_inst0 (q0 := 45 + 2 * k) C (bCell_at he e) rfl hl (by decide) d (by have := kk _ hm; rw [e] at this; exact this)
  · exact j_instS (q0 := 45 + 2 * k) C (bCell_at he e) rfl hl d (by have := kk _ hm; rw [e] at this; exact this)
  · exact j_inst0 (q0 := 45 + 2 * k) C (bCell_at he e) rfl hl (by decide) d (by have := kk _ hm; rw [e] at this; exact this)
  · exact j_inst0 (q0 := 45 + 2 * k) C (bCell_at he e) rfl hl (by decide) d (by have := kk _ hm; rw [e] at this; exact this)
def ivFrosty (c : Nat) : Int32 := if c = 4 ∨ c = 9 then 1 else 0
theorem jX_iFrosty {k index : Nat} {K : Int32 → Option β} (C : jC l R D (tX cI cO cR) G cc nL own) (hl : Cond.classLink own index "NineBridges$Frosty" ∈ gW) (hc9 : Cond.castable "NineBridges$Swinging" "NineBridges$Frosty" ∈ nW) (d : decode cc pc = .ok (.instanceof index, 3)) (hm : bcl b k (fun c => nm (ivFrosty c) K) = some rr) (kk : ∀ v : Int32, K v = some rr → J l R D G cs (wX cI cO cR q t0 u b) lv (.int v :: st) (pc + 3)) : J l R D G cs (wX cI cO cR q t0 u b) lv (.ref (bA b k) :: st) pc := by
  obtain ⟨x, rfl, hk, hc, hm⟩ := bwt_some hm
  have he := (wX_b (cI := cI) (cO := cO) (cR := cR) (q := q) (t0 := t0) (u := u) hk).1
  rcases okc_or hc with e | e | e | e
  · exact j_inst0 (q0 := 45 + 2 * k) C (bCell_at he e) rfl hl (by decide) d (by have := kk _ hm; rw [e] at this; exact this)
  · exact j_inst0 (q0 := 45 + 2 * k) C (bCell_at he e) rfl hl (by decide) d (by have := kk _ hm; rw [e] at this; exact this)
  · exact j_instS (q0 := 45 + 2 * k) C (bCell_at he e) rfl hl d (by have := kk _ hm; rw [e] at this; exact this)
  · exact j_inst1 (q0 := 45 + 2 * k) C (bCell_at he e) rfl hl hc9 d (by have := kk _ hm; rw [e] at this; exact this)
def ivSwinging (c : Nat) : Int32 := if c = 9 then 1 else 0
theorem jX_iSwinging {k index : Nat} {K : Int32 → Option β} (C : jC l R D (tX cI cO cR) G cc nL own) (hl : Cond.classLink own index "NineBridges$Swinging" ∈ gW) (d : decode cc pc = .ok (.instanceof index, 3)) (hm : bcl b k (fun c => nm (ivSwinging c) K) = some rr) (kk : ∀ v : Int32, K v = some rr → J l R D G cs (wX cI cO cR q t0 u b) lv (.int v :: st) (pc + 3)) : J l R D G cs (wX cI cO cR q t0 u b) lv (.ref (bA b k) :: st) pc := by
  obtain ⟨x, rfl, hk, hc, hm⟩ := bwt_some hm
  have he := (wX_b (cI := cI) (cO := cO) (cR := cR) (q := q) (t0 := t0) (u := u) hk).1
  rcases okc_or hc with e | e | e | e
  · exact j_inst0 (q0 := 45 + 2 * k) C (bCell_at he e) rfl hl (by decide) d (by have := kk _ hm; rw [e] at this; exact this)
  · exact j_inst0 (q0 := 45 + 2 * k) C (bCell_at he e) rfl hl (by decide) d (by have := kk _ hm; rw [e] at this; exact this)
  · exact j_inst0 (q0 := 45 + 2 * k) C (bCell_at he e) rfl hl (by decide) d (by have := kk _ hm; rw [e] at this; exact this)
  · exact j_instS (q0 := 45 + 2 * k) C (bCell_at he e) rfl hl d (by have := kk _ hm; rw [e] at this; exact this)
theorem jX_cast {k index : Nat} {K : Option β} (C : jC l R D (tX cI cO cR) G cc nL own) (hl : Cond.classLink own index "NineBridges$Bridge" ∈ gW) (hc3 : Cond.castable "NineBridges$Fixed" "NineBridges$Bridge" ∈ nW) (hc4 : Cond.castable "NineBridges$Frosty" "NineBridges$Bridge" ∈ nW) (hc9 : Cond.castable "NineBridges$Swinging" "NineBridges$Bridge" ∈ nW) (d : decode cc pc = .ok (.checkcast index, 3)) (hm : bwt b k (fun _ => K) = some rr) (kk : K = some rr → J l R D G cs (wX cI cO cR q t0 u b) lv (.ref (bA b k) :: st) (pc + 3)) : J l R D G cs (wX cI cO cR q t0 u b) lv (.ref (bA b k) :: st) pc := by
  obtain ⟨x, rfl, hk, hc, hm⟩ := bwt_some hm
  have he := (wX_b (cI := cI) (cO := cO) (cR := cR) (q := q) (t0 := t0) (u := u) hk).1
  have kk := kk hm
  rcases okc_or hc with e | e | e | e
  · exact j_castS (q0 := 45 + 2 * k) C (bCell_at he e) rfl hl d kk
  · exact j_castY (q0 := 45 + 2 * k) C (bCell_at he e) rfl hl hc3 d kk
  · exact j_castY (q0 := 45 + 2 * k) C (bCell_at he e) rfl hl hc4 d kk
  · exact j_castY (q0 := 45 + 2 * k) C (bCell_at he e) rfl hl hc9 d kk
end XR
