def R3 (u : USt) (T O Q : Int → Int) : Prop := ∀ x, 0 ≤ x → x < 488 → u.2 21 x.toNat = I (T x) ∧ u.2 22 x.toNat = I (O x) ∧ u.2 23 x.toNat = I (Q x)
def KQ (u u' : USt) : Prop := u'.1 = u.1 ∧ ∀ a, a ≠ 21 → a ≠ 22 → a ≠ 23 → u'.2 a = u.2 a
theorem KQ.refl (u : USt) : KQ u u := ⟨rfl, fun _ _ _ _ => rfl⟩
theorem KQ.trans {u u' u'' : USt} (h : KQ u u') (g : KQ u' u'') : KQ u u'' := ⟨g.1.trans h.1, fun a a1 a2 a3 => (g.2 a a1 a2 a3).trans (h.2 a a1 a2 a3)⟩
theorem KQ_sa (u : USt) {k : Nat} (j : Nat) (x : Int32) (hk : k = 21 ∨ k = 22 ∨ k = 23) : KQ u (saX u k j x) := ⟨rfl, fun a a1 a2 a3 => saX_ne (by omega)⟩
theorem KQ_sf (u : USt) {k : Nat} (g : Nat → Int32) (hk : k = 21 ∨ k = 22 ∨ k = 23) : KQ u (sfX u k g) := ⟨rfl, fun a a1 a2 a3 => sfX_ne (by omega)⟩
theorem KQ.tab {u u' : USt} {s sp p n j : Int} {P : Int → Int} {L : Int → Int → Int} (h : KQ u u') (hT : Tab u s sp p n j P L) (j2 : j ≤ 10) : Tab u' s sp p n j P L := hT.keep j2 h.1 (fun a q => h.2 a (by omega) (by omega) (by omega))
theorem KQ.fc {u u' : USt} {F : Int → Int → Int → Int} (h : KQ u u') (hC : FC u F) : FC u' F := by
  unfold FC
  rw [h.2 19 (by omega) (by omega) (by omega), h.2 20 (by omega) (by omega) (by omega)]
  exact hC
theorem KS.tab {u u' : USt} {s sp p n j : Int} {P : Int → Int} {L : Int → Int → Int} (h : KS u u') (hT : Tab u s sp p n j P L) (j2 : j ≤ 10) : Tab u' s sp p n j P L := hT.keep j2 h.1 (fun a q => h.2 a (by omega) (by omega))
theorem KS.r3 {u u' : USt} {T O Q : Int → Int} (h : KS u u') (hR : R3 u T O Q) : R3 u' T O Q := by
  unfold R3
  rw [h.2 21 (by omega) (by omega), h.2 22 (by omega) (by omega), h.2 23 (by omega) (by omega)]
  exact hR
theorem R3.t {u : USt} {T O Q : Int → Int} (h : R3 u T O Q) {y : Int} (y1 : 0 ≤ y) (z : Int) : R3 (saX u 21 y.toNat (I z)) (fup T y z) O Q := by
  intro x x1 x2
  rw [saX_g, saX_ne (by omega), saX_ne (by omega)]
  obtain ⟨a, b, c⟩ := h x x1 x2
  refine ⟨?_, b, c⟩
  by_cases q : x = y
  · subst q
    rw [ud_eq, fup_eq]
  · rw [ud_ne (by omega), fup_ne q]
    exact a
theorem R3.o {u : USt} {T O Q : Int → Int} (h : R3 u T O Q) {y : Int} (y1 : 0 ≤ y) (z : Int) : R3 (saX u 22 y.toNat (I z)) T (fup O y z) Q := by
  intro x x1 x2
  rw [saX_g, saX_ne (by omega), saX_ne (by omega)]
  obtain ⟨a, b, c⟩ := h x x1 x2
  refine ⟨a, ?_, c⟩
  by_cases q : x = y
  · subst q
    rw [ud_eq, fup_eq]
  · rw [ud_ne (by omega), fup_ne q]
    exact b
theorem R3.q {u : USt} {T O Q : Int → Int} (h : R3 u T O Q) {y : Int} (y1 : 0 ≤ y) (z : Int) : R3 (saX u 23 y.toNat (I z)) T O (fup Q y z) := by
  intro x x1 x2
  rw [saX_g, saX_ne (by omega), saX_ne (by omega)]
  obtain ⟨a, b, c⟩ := h x x1 x2
  refine ⟨a, b, ?_⟩
  by_cases q : x = y
  · subst q
    rw [ud_eq, fup_eq]
  · rw [ud_ne (by omega), fup_ne q]
    exact c
/-- a path of the search -/
def PI (nx : Int → Int → Int) (src len : Int) (T O Q : Int → Int) : Prop := (∀ x, 0 ≤ x → x < 488 → 0 ≤ T x ∧ T x ≤ 22) ∧ (∀ x, 0 ≤ x → x < 488 → O x = 0 ∨ O x = 1) ∧ (∀ j, 0 ≤ j → j < len → 0 ≤ Q j ∧ Q j < 488 ∧ O (Q j) = 1) ∧ (∀ x, 0 ≤ x → x < 488 → O x = 1 → ∃ j, 0 ≤ j ∧ j < len ∧ Q j = x) ∧ (∀ i j, 0 ≤ i → i < j → j < len → Q i ≠ Q j) ∧ (0 < len → Q 0 = src) ∧ (∀ j, 0 ≤ j → j + 1 < len → T (Q j) < 22 ∧ nx (Q j) (T (Q j)) = Q (j + 1)) ∧ sN 488 O = len
/-- what was seen, of a search that began fresh -/
def Vs (T O : Int → Int) (x : Int) : Prop := 0 ≤ x ∧ x < 488 ∧ (0 < T x ∨ O x = 1)
def DI (nx : Int → Int → Int) (g src len : Int) (T O Q : Int → Int) : Prop := Vs T O src ∧ ∀ x, Vs T O x → (∀ w, 0 ≤ w → w < T x → nx x w = -1 ∨ Vs T O (nx x w)) ∧ (O x = 0 → T x = 22) ∧ (x / 61 = g → 0 < len ∧ x = Q (len - 1))
theorem PI_len {nx : Int → Int → Int} {src len y : Int} {T O Q : Int → Int} (h : PI nx src len T O Q) (y1 : 0 ≤ y) (y2 : y < 488) (hy : O y = 0) : len ≤ 487 := by
  have a : sN 488 O ≤ sN 488 (fup (fun _ => 1) y 0) := by
    apply sN_le
    intro i i1 i2
    by_cases q : i = y
    · subst q
      rw [fup_eq]
      omega
    · rw [fup_ne q]
      have := h.2.1 i i1 i2
      omega
  rw [sN_up y1 y2, sN_c, h.2.2.2.2.2.2.2] at a
  change len ≤ ((488 : Nat) : Int) * 1 + (0 - 1) at a
  have : ((488 : Nat) : Int) * 1 + (0 - 1) = 487 := by decide
  omega
theorem PI_T {nx : Int → Int → Int} {src len : Int} {T O Q : Int → Int} (h : PI nx src len T O Q) : sN 488 T ≤ 10736 := by
  have a : sN 488 T ≤ sN 488 (fun _ => 22) := sN_le 488 (fun i i1 i2 => (h.1 i i1 i2).2)
  rw [sN_c] at a
  have : ((488 : Nat) : Int) * 22 = 10736 := by decide
  omega
theorem PI_len2 {nx : Int → Int → Int} {src len : Int} {T O Q : Int → Int} (h : PI nx src len T O Q) : len ≤ 488 := by
  have a : sN 488 O ≤ sN 488 (fun _ => 1) := sN_le 488 (fun i i1 i2 => by have := h.2.1 i i1 i2; omega)
  rw [sN_c, h.2.2.2.2.2.2.2] at a
  have : ((488 : Nat) : Int) * 1 = 488 := by decide
  omega
theorem PI_inc {nx : Int → Int → Int} {src len : Int} {T O Q : Int → Int} (h : PI nx src len T O Q) (l1 : 1 ≤ len) (ht : T (Q (len - 1)) < 22) : PI nx src len (fup T (Q (len - 1)) (T (Q (len - 1)) + 1)) O Q := by
  obtain ⟨h1, h2, h3, h4, h5, h6, h7, h8⟩ := h
  have hq := h3 (len - 1) (by omega) (by omega)
  have hT := h1 (Q (len - 1)) hq.1 hq.2.1
  refine ⟨fun x x1 x2 => ?_, h2, h3, h4, h5, h6, fun j j1 j2 => ?_, h8⟩
  · by_cases q : x = Q (len - 1)
    · subst q
      rw [fup_eq]
      omega
    · rw [fup_ne q]
      exact h1 x x1 x2
  · rw [fup_ne (h5 j (len - 1) j1 (by omega) (by omega))]
    exact h7 j j1 j2
theorem DI_inc {nx : Int → Int → Int} {g src len : Int} {T O Q : Int → Int} (hP : PI nx src len T O Q) (h : DI nx g src len T O Q) (l1 : 1 ≤ len) (ht : T (Q (len - 1)) < 22) (hn : nx (Q (len - 1)) (T (Q (len - 1))) = -1 ∨ Vs T O (nx (Q (len - 1)) (T (Q (len - 1))))) : DI nx g src len (fup T (Q (len - 1)) (T (Q (len - 1)) + 1)) O Q := by
  have hq := hP.2.2.1 (len - 1) (by omega) (by omega)
  have hT := hP.1 (Q (len - 1)) hq.1 hq.2.1
  have mono : ∀ x, Vs T O x → Vs (fup T (Q (len - 1)) (T (Q (len - 1)) + 1)) O x := by
    intro x hx
    refine ⟨hx.1, hx.2.1, ?_⟩
    by_cases q : x = Q (len - 1)
    · subst q
      exact .inr hq.2.2
    · rw [fup_ne q]
      exact hx.2.2
  have back : ∀ x, Vs (fup T (Q (len - 1)) (T (Q (len - 1)) + 1)) O x → Vs T O x := by
    intro x hx
    refine ⟨hx.1, hx.2.1, ?_⟩
    by_cases q : x = Q (len - 1)
    · subst q
      exact .inr hq.2.2
    · have := hx.2.2
      rw [fup_ne q] at this
      exact this
  refine ⟨mono _ h.1, fun x hx => ?_⟩
  obtain ⟨a, b, c⟩ := h.2 x (back x hx)
  refine ⟨fun w w1 w2 => ?_, fun ho => ?_, c⟩
  · by_cases q : x = Q (len - 1)
    · subst q
      rw [fup_eq] at w2
      by_cases q2 : w = T (Q (len - 1))
      · rw [q2]
        exact hn.imp id (mono _)
      · exact (a w w1 (by omega)).imp id (mono _)
    · rw [fup_ne q] at w2
      exact (a w w1 w2).imp id (mono _)
  · have hne : x ≠ Q (len - 1) := by
      intro e
      rw [e] at ho
      omega
    rw [fup_ne hne]
    exact b ho
theorem PI_push {nx : Int → Int → Int} {src len y : Int} {T O Q : Int → Int} (h : PI nx src len T O Q) (l1 : 1 ≤ len) (ht : T (Q (len - 1)) < 22) (y1 : 0 ≤ y) (y2 : y < 488) (hy : nx (Q (len - 1)) (T (Q (len - 1))) = y) (ho : O y = 0) : PI nx src (len + 1) T (fup O y 1) (fup Q len y) := by
  obtain ⟨h1, h2, h3, h4, h5, h6, h7, h8⟩ := h
  have ny : ∀ j, 0 ≤ j → j < len → Q j ≠ y := by
    intro j j1 j2 e
    have := (h3 j j1 j2).2.2
    rw [e] at this
    omega
  refine ⟨h1, fun x x1 x2 => ?_, fun j j1 j2 => ?_, fun x x1 x2 hx => ?_, fun i j i1 ij j2 => ?_, fun _ => ?_, fun j j1 j2 => ?_, ?_⟩
  · by_cases q : x = y
    · subst q
      rw [fup_eq]
      exact .inr rfl
    · rw [fup_ne q]
      exact h2 x x1 x2
  · by_cases q : j = len
    · subst q
      rw [fup_eq, fup_eq]
      exact ⟨y1, y2, rfl⟩
    · rw [fup_ne q, fup_ne (ny j j1 (by omega))]
      exact h3 j j1 (by omega)
  · by_cases q : x = y
    · exact ⟨len, by omega, by omega, by rw [fup_eq, q]⟩
    · rw [fup_ne q] at hx
      obtain ⟨j, j1, j2, j3⟩ := h4 x x1 x2 hx
      exact ⟨j, j1, by omega, by rw [fup_ne (by omega)]; exact j3⟩
  · rw [fup_ne (show i ≠ len by omega)]
    by_cases q : j = len
    · subst q
      rw [fup_eq]
      exact ny i i1 (by omega)
    · rw [fup_ne q]
      exact h5 i j i1 ij (by omega)
  · rw [fup_ne (by omega)]
    exact h6 (by omega)
  · rw [fup_ne (show j ≠ len by omega)]
    by_cases q : j + 1 = len
    · rw [q, fup_eq]
      have e : j = len - 1 := by omega
      subst e
      exact ⟨ht, hy⟩
    · rw [fup_ne q]
      exact h7 j j1 (by omega)
  · rw [sN_up y1 y2, h8, ho]
    omega
theorem DI_push {nx : Int → Int → Int} {g src len y : Int} {T O Q : Int → Int} (hP : PI nx src len T O Q) (h : DI nx g src len T O Q) (l1 : 1 ≤ len) (y1 : 0 ≤ y) (y2 : y < 488) (ho : O y = 0) (hg : Q (len - 1) / 61 ≠ g) : DI nx g src (len + 1) T (fup O y 1) (fup Q len y) := by
  have mono : ∀ x, Vs T O x → Vs T (fup O y 1) x := by
    intro x hx
    refine ⟨hx.1, hx.2.1, ?_⟩
    by_cases q : x = y
    · subst q
      rw [fup_eq]
      exact .inr rfl
    · rw [fup_ne q]
      exact hx.2.2
  refine ⟨mono _ h.1, fun x hx => ?_⟩
  by_cases q : x = y
  · subst q
    refine ⟨fun w w1 w2 => ?_, fun e => ?_, fun _ => ⟨by omega, ?_⟩⟩
    · have hv : Vs T O x := ⟨y1, y2, .inl (by omega)⟩
      exact ((h.2 x hv).1 w w1 w2).imp id (mono _)
    · rw [fup_eq] at e
      omega
    · rw [show len + 1 - 1 = len by omega, fup_eq]
  · have hv : Vs T O x := by
      refine ⟨hx.1, hx.2.1, ?_⟩
      have := hx.2.2
      rw [fup_ne q] at this
      exact this
    obtain ⟨a, b, c⟩ := h.2 x hv
    refine ⟨fun w w1 w2 => (a w w1 w2).imp id (mono _), fun e => ?_, fun e => ?_⟩
    · rw [fup_ne q] at e
      exact b e
    · have := (c e).2
      rw [this] at e
      exact absurd e hg
theorem PI_pop {nx : Int → Int → Int} {src len : Int} {T O Q : Int → Int} (h : PI nx src len T O Q) (l1 : 1 ≤ len) : PI nx src (len - 1) T (fup O (Q (len - 1)) 0) Q := by
  obtain ⟨h1, h2, h3, h4, h5, h6, h7, h8⟩ := h
  have hq := h3 (len - 1) (by omega) (by omega)
  refine ⟨h1, fun x x1 x2 => ?_, fun j j1 j2 => ?_, fun x x1 x2 hx => ?_, fun i j i1 ij j2 => h5 i j i1 ij (by omega), fun _ => h6 (by omega), fun j j1 j2 => h7 j j1 (by omega), ?_⟩
  · by_cases q : x = Q (len - 1)
    · subst q
      rw [fup_eq]
      exact .inl rfl
    · rw [fup_ne q]
      exact h2 x x1 x2
  · rw [fup_ne (h5 j (len - 1) j1 (by omega) (by omega))]
    exact h3 j j1 (by omega)
  · have hne : x ≠ Q (len - 1) := by
      intro e
      rw [e, fup_eq] at hx
      omega
    rw [fup_ne hne] at hx
    obtain ⟨j, j1, j2, j3⟩ := h4 x x1 x2 hx
    refine ⟨j, j1, ?_, j3⟩
    have : j ≠ len - 1 := by
      intro e
      rw [e] at j3
      exact hne j3.symm
    omega
  · rw [sN_up hq.1 hq.2.1, h8, hq.2.2]
    omega
theorem DI_pop {nx : Int → Int → Int} {g src len : Int} {T O Q : Int → Int} (hP : PI nx src len T O Q) (h : DI nx g src len T O Q) (l1 : 1 ≤ len) (ht : T (Q (len - 1)) = 22) (hg : Q (len - 1) / 61 ≠ g) : DI nx g src (len - 1) T (fup O (Q (len - 1)) 0) Q := by
  have hq := hP.2.2.1 (len - 1) (by omega) (by omega)
  have mono : ∀ x, Vs T O x → Vs T (fup O (Q (len - 1)) 0) x := by
    intro x hx
    refine ⟨hx.1, hx.2.1, ?_⟩
    by_cases q : x = Q (len - 1)
    · subst q
      left
      omega
    · rw [fup_ne q]
      exact hx.2.2
  refine ⟨mono _ h.1, fun x hx => ?_⟩
  have hv : Vs T O x := by
    refine ⟨hx.1, hx.2.1, ?_⟩
    by_cases q : x = Q (len - 1)
    · subst q
      exact .inr hq.2.2
    · have := hx.2.2
      rw [fup_ne q] at this
      exact this
  obtain ⟨a, b, c⟩ := h.2 x hv
  refine ⟨fun w w1 w2 => (a w w1 w2).imp id (mono _), fun e => ?_, fun e => ?_⟩
  · by_cases q : x = Q (len - 1)
    · rw [q]
      exact ht
    · rw [fup_ne q] at e
      exact b e
  · have := (c e).2
    rw [this] at e
    exact absurd e hg
/-- all that was seen, when a fresh search ends with nothing -/
def CL (nx : Int → Int → Int) (g src : Int) (T : Int → Int) : Prop := 0 < T src ∧ ∀ x, 0 ≤ x → x < 488 → 0 < T x → x / 61 ≠ g ∧ ∀ w, 0 ≤ w → w < 22 → nx x w = -1 ∨ (0 ≤ nx x w ∧ nx x w < 488 ∧ 0 < T (nx x w))
theorem CL_of {nx : Int → Int → Int} {g src : Int} {T O Q : Int → Int} (hP : PI nx src 0 T O Q) (h : DI nx g src 0 T O Q) : CL nx g src T := by
  have o0 : ∀ x, 0 ≤ x → x < 488 → O x = 0 := by
    intro x x1 x2
    rcases hP.2.1 x x1 x2 with q | q
    · exact q
    · obtain ⟨j, j1, j2, -⟩ := hP.2.2.2.1 x x1 x2 q
      omega
  have vs : ∀ x, Vs T O x → 0 < T x := by
    intro x hx
    have := o0 x hx.1 hx.2.1
    have := hx.2.2
    omega
  refine ⟨vs _ h.1, fun x x1 x2 hx => ?_⟩
  obtain ⟨a, b, c⟩ := h.2 x ⟨x1, x2, .inl hx⟩
  refine ⟨fun e => by have := (c e).1; omega, fun w w1 w2 => ?_⟩
  have := b (o0 x x1 x2)
  exact (a w w1 (by omega)).imp id (fun v => ⟨v.1, v.2.1, vs _ v⟩)
