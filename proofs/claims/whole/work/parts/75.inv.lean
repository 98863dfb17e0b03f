/-- notes as they may be -/
def NoteR (f : Nat → Int32) (m : Nat) : Prop := ∀ j, j < m → ∃ a t c w : Int, f (4 * j) = I a ∧ f (4 * j + 1) = I t ∧ f (4 * j + 2) = I c ∧ f (4 * j + 3) = I w ∧ (0 ≤ a ∧ a < 8) ∧ (0 ≤ t ∧ t ≤ 99) ∧ (0 ≤ c ∧ c < 8) ∧ t ≤ w ∧ w ≤ t + 400
def PageOK (u : USt) (v : MSt) : Prop := ∃ p : Nat, p ≤ 20 ∧ u.1 0 = I p ∧ v.1 1 = I p ∧ ∀ j, j < p → ∃ c : Int, u.2 2 j = I c ∧ v.2.1 0 j = I c ∧ 1 ≤ c ∧ c ≤ 126
def NotesOK (u : USt) (v : MSt) : Prop := ∃ m : Nat, m ≤ 6 ∧ u.1 11 = I m ∧ v.1 21 = I m ∧ (∀ j, j < 24 → u.2 7 j = v.2.1 22 j) ∧ NoteR (u.2 7) m
def ImgOK (u : USt) (v : MSt) (n : Int) : Prop := ∃ i : Int, u.1 12 = I i ∧ v.1 23 = I i ∧ -1 ≤ i ∧ i ≤ n ∧ (i ≠ -1 → (∃ f : Int, (f = 0 ∨ f = 1) ∧ u.1 13 = I f ∧ v.1 24 = I f) ∧ (∃ m : Nat, m ≤ 6 ∧ u.1 14 = I m ∧ v.1 25 = I m ∧ NoteR (u.2 11) m) ∧ (∀ j, j < 24 → u.2 11 j = v.2.1 27 j) ∧ ∀ j : Nat, (j : Int) < i → ∃ s : Int, u.2 9 j = I s ∧ v.2.1 26 j = I s ∧ 0 ≤ s ∧ s ≤ 9)
def Shf (rw : Int → Int) (n : Int) : Prop := ∀ k, 0 ≤ k → k < n → 0 ≤ rowk rw k 8 ∧ rowk rw k 8 ≤ 9
def InvX (u : USt) (b : BSt) (v : MSt) : Prop := ∃ (n : Int) (rw : Int → Int) (fr se : Int), Xst u b rw n fr ∧ Mst v rw n fr (-1) (-1) se ∧ Shf rw n ∧ PageOK u v ∧ NotesOK u v ∧ ImgOK u v n
/-- what the promises need of the class's state stays -/
def KX (u u' : USt) : Prop := (∀ k, (k = 0 ∨ (10 ≤ k ∧ k < 15) ∨ k = 19) → u'.1 k = u.1 k) ∧ (∀ a, (a = 2 ∨ a = 7 ∨ a = 9 ∨ a = 11) → u'.2 a = u.2 a)
def KM (v v' : MSt) : Prop := (∀ k, (k = 1 ∨ k = 4 ∨ k = 6 ∨ k = 7 ∨ k = 8 ∨ k = 21 ∨ k = 23 ∨ k = 24 ∨ k = 25) → v'.1 k = v.1 k) ∧ (∀ a, (a = 0 ∨ a = 5 ∨ a = 22 ∨ a = 26 ∨ a = 27) → v'.2.1 a = v.2.1 a)
theorem KX.refl (u : USt) : KX u u := ⟨fun _ _ => rfl, fun _ _ => rfl⟩
theorem KM.refl (v : MSt) : KM v v := ⟨fun _ _ => rfl, fun _ _ => rfl⟩
theorem KX.trans {u u' u'' : USt} (h : KX u u') (g : KX u' u'') : KX u u'' := ⟨fun k q => (g.1 k q).trans (h.1 k q), fun k q => (g.2 k q).trans (h.2 k q)⟩
theorem KM.trans {u u' u'' : MSt} (h : KM u u') (g : KM u' u'') : KM u u'' := ⟨fun k q => (g.1 k q).trans (h.1 k q), fun k q => (g.2 k q).trans (h.2 k q)⟩
theorem Xst.keep {u u' : USt} {b : BSt} {rw : Int → Int} {n fr : Int} (h : Xst u b rw n fr) (k : KX u u') : Xst u' b rw n fr := by
  obtain ⟨h1, h2, h3, h4, h5⟩ := h
  exact ⟨(k.1 10 (by decide)).trans h1, h2, h3, (k.1 19 (by decide)).trans h4, h5⟩
theorem Mst.keep {v v' : MSt} {rw : Int → Int} {n fr wo sk se : Int} (h : Mst v rw n fr wo sk se) (k : KM v v') (h9 : v'.1 9 = v.1 9) : Mst v' rw n fr wo sk se := by
  obtain ⟨hr, hf, hf2, hn, hn1, hn2, hwo, hsk, hse, hr'⟩ := h
  refine ⟨fun z z1 z2 => ?_, (k.1 6 (by decide)).trans hf, hf2, (k.1 4 (by decide)).trans hn, hn1, hn2, (k.1 7 (by decide)).trans hwo, (k.1 8 (by decide)).trans hsk, h9.trans hse, hr'⟩
  rw [k.2 5 (by decide)]
  exact hr z z1 z2
theorem InvX.keep {u u' : USt} {b : BSt} {v v' : MSt} (h : InvX u b v) (kx : KX u u') (km : KM v v') : InvX u' b v' := by
  obtain ⟨n, rw, fr, se, hX, hM, hs, ⟨p, p1, p2, p3, p4⟩, ⟨m, m1, m2, m3, m4, m5⟩, i, i1, i2, i3, i4, i5⟩ := h
  obtain ⟨s9, hs9, -⟩ := I_ex (v'.1 9)
  refine ⟨n, rw, fr, s9, hX.keep kx, ?_, hs, ⟨p, p1, (kx.1 0 (by decide)).trans p2, (km.1 1 (by decide)).trans p3, ?_⟩, ⟨m, m1, (kx.1 11 (by decide)).trans m2, (km.1 21 (by decide)).trans m3, ?_, ?_⟩, i, (kx.1 12 (by decide)).trans i1, (km.1 23 (by decide)).trans i2, i3, i4, ?_⟩
  · obtain ⟨hr, hf, hf2, hn, hn1, hn2, hwo, hsk, hse, w1, w2, w3, w4⟩ := hM
    refine ⟨fun z z1 z2 => ?_, (km.1 6 (by decide)).trans hf, hf2, (km.1 4 (by decide)).trans hn, hn1, hn2, (km.1 7 (by decide)).trans hwo, (km.1 8 (by decide)).trans hsk, hs9, w1, w2, fun q => absurd q (by decide), w4⟩
    rw [km.2 5 (by decide)]
    exact hr z z1 z2
  · rw [kx.2 2 (by decide), km.2 0 (by decide)]
    exact p4
  · rw [kx.2 7 (by decide), km.2 22 (by decide)]
    exact m4
  · rw [kx.2 7 (by decide)]
    exact m5
  · intro q
    rw [kx.2 11 (by decide), km.2 27 (by decide), kx.2 9 (by decide), km.2 26 (by decide), kx.1 13 (by decide), km.1 24 (by decide), kx.1 14 (by decide), km.1 25 (by decide)]
    exact i5 q
theorem vu_eq {α : Type} (f : Nat → α) (k : Nat) (x : α) : va_up f k x k = x := by
  unfold va_up
  exact if_pos rfl
theorem vu_ne {α : Type} {f : Nat → α} {k j : Nat} {x : α} (h : j ≠ k) : va_up f k x j = f j := by
  unfold va_up
  exact if_neg h
theorem ud_eq (f : Nat → Int32) (k : Nat) (x : Int32) : upd f k x k = x := by
  unfold upd
  exact if_pos rfl
theorem ud_ne {f : Nat → Int32} {k j : Nat} {x : Int32} (h : j ≠ k) : upd f k x j = f j := by
  unfold upd
  exact if_neg h
theorem inv_0 : InvX u0X none v0M := by
  refine ⟨0, fun _ => 0, 0, 0, ⟨rfl, by omega, by omega, rfl, .inl rfl, fun _ => rfl, fun x q => absurd q (by simp), fun k k1 k2 => by omega⟩, ⟨fun z z1 z2 => rfl, rfl, .inl rfl, rfl, by omega, by omega, rfl, rfl, rfl, ⟨by omega, by omega⟩, ⟨by omega, by omega⟩, fun q => absurd q (by decide), fun k k1 k2 => by omega⟩, fun k k1 k2 => by omega, ⟨0, by omega, rfl, rfl, fun j q => by omega⟩, ⟨0, by omega, rfl, rfl, fun j q => rfl, fun j q => by omega⟩, -1, rfl, rfl, by omega, by omega, fun q => absurd rfl q⟩
