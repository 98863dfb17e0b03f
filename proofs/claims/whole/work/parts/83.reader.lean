theorem bp_some {α γ β : Type} (a : α) (c : γ) (k : α → γ → Option β) : bp (some (a, c)) k = k a c := rfl
def qst (s e : Int) : Int := if s ≤ 2 then s else if s = 3 then (if e = 0 then 3 else 4) else s + 1
def fup (r : Int → Int) (k x : Int) : Int → Int := fun z => if z = k then x else r z
theorem fup_eq (r : Int → Int) (k x : Int) : fup r k x k = x := if_pos rfl
theorem fup_ne {r : Int → Int} {k x z : Int} (h : z ≠ k) : fup r k x z = r z := if_neg h
def FX (u u' : USt) : Prop := (∀ k, (k = 0 ∨ 9 ≤ k) → u'.1 k = u.1 k) ∧ (∀ a, a ≠ 4 → u'.2 a = u.2 a)
def FM (v v' : MSt) : Prop := (∀ k, k ≠ 2 → v'.1 k = v.1 k) ∧ (∀ a, a ≠ 3 → v'.2.1 a = v.2.1 a)
theorem FX.refl (u : USt) : FX u u := ⟨fun _ _ => rfl, fun _ _ => rfl⟩
theorem FM.refl (v : MSt) : FM v v := ⟨fun _ _ => rfl, fun _ _ => rfl⟩
theorem FX.trans {u u' u'' : USt} (h : FX u u') (g : FX u' u'') : FX u u'' := ⟨fun k q => (g.1 k q).trans (h.1 k q), fun k q => (g.2 k q).trans (h.2 k q)⟩
theorem FM.trans {u u' u'' : MSt} (h : FM u u') (g : FM u' u'') : FM u u'' := ⟨fun k q => (g.1 k q).trans (h.1 k q), fun k q => (g.2 k q).trans (h.2 k q)⟩
theorem FX.si {u u' : USt} (h : FX u u') {k : Nat} {x : Int32} (h1 : 1 ≤ k) (h2 : k ≤ 8) : FX u (siX u' k x) := ⟨fun j q => (vu_ne (by omega)).trans (h.1 j q), h.2⟩
theorem FX.sa {u u' : USt} (h : FX u u') {j : Nat} {x : Int32} : FX u (saX u' 4 j x) := ⟨h.1, fun a q => (vu_ne q).trans (h.2 a q)⟩
theorem FM.si {u u' : MSt} (h : FM u u') {x : Int32} : FM u (siM u' 2 x) := ⟨fun j q => (vu_ne q).trans (h.1 j q), h.2⟩
theorem FM.sa {u u' : MSt} (h : FM u u') {j : Nat} {x : Int32} : FM u (saM u' 3 j x) := ⟨h.1, fun a q => (vu_ne q).trans (h.2 a q)⟩
def RowR (v : MSt) (r : Int → Int) : Prop := ∀ j : Nat, j < 10 → v.2.1 3 j = I (r j)
theorem RowR.up {v : MSt} {r : Int → Int} (h : RowR v r) (k : Nat) (x : Int) : RowR (saM v 3 k (I x)) (fup r k x) := by
  intro j hj
  show va_up v.2.1 3 (upd (v.2.1 3) k (I x)) 3 j = _
  rw [vu_eq]
  by_cases q : j = k
  · subst q
    rw [ud_eq, fup_eq]
  · rw [ud_ne q, fup_ne (by omega)]
    exact h j hj
/-- the class's reader in its stage s, and the reference's, over the row r -/
def ReadR (u : USt) (v : MSt) (s : Int) (r : Int → Int) : Prop :=
  RowR v r ∧ u.1 1 = I s ∧ (0 ≤ s ∧ s ≤ 11) ∧ v.1 2 = I (qst s (r 2)) ∧
  (s = 0 → u.1 2 = I 0 ∧ u.1 8 = I 9) ∧
  (1 ≤ s → u.1 2 = I (r 0) ∧ (0 ≤ r 0 ∧ r 0 ≤ 3) ∧ u.1 8 = I (r 9) ∧ 1 ≤ r 9 ∧ r 9 ≤ 9) ∧
  (s ≤ 1 → u.1 4 = I 0) ∧
  (2 ≤ s → u.1 3 = I (r 1) ∧ (0 ≤ r 1 ∧ r 1 ≤ 7) ∧ u.1 4 = I (r 2) ∧ (0 ≤ r 2 ∧ r 2 ≤ 3) ∧ ∀ j : Int, 0 ≤ j → j < r 2 → u.2 4 j.toNat = I (r (3 + j)) ∧ 0 ≤ r (3 + j) ∧ r (3 + j) ≤ 7 ∧ r (3 + j) ≠ r 1) ∧
  (s = 2 → r 2 = 0) ∧ (4 ≤ s → 1 ≤ r 2) ∧
  (5 ≤ s → u.1 5 = I (r 6) ∧ 1 ≤ r 6 ∧ r 6 ≤ 9) ∧
  (7 ≤ s → u.1 6 = I (r 7) ∧ 1 ≤ r 7 ∧ r 7 ≤ 9) ∧
  (9 ≤ s → u.1 7 = I (r 8) ∧ 0 ≤ r 8 ∧ r 8 ≤ 9)
/-- one letter, read by both -/
def Step2 (N : Nat) (u : USt) (v : MSt) (c : Int) : Prop := ∃ (z : Int32) (u' : USt) (v' : MSt), mX7_takes N u (I c) = some (z, u') ∧ mM_go N v (I c) = some (z, v') ∧ FX u u' ∧ FM v v' ∧ ((z = 0 ∧ u' = u) ∨ (z = 1 ∧ ∃ s' r', ReadR u' v' s' r'))
theorem m_digit (N : Nat) {v : MSt} {c m : Int} {k : Nat} (hk : k < 10) (c1 : 0 ≤ c) (c2 : c ≤ 200) (m1 : 0 ≤ m) (m2 : m ≤ 9) : mM_goDigit N v (I c) (I k) (I m) = some (I (bo (m ≤ c - 48 ∧ c - 48 ≤ 9)), saM v 3 k (I (c - 48))) := by
  unfold mM_goDigit
  simp only [nm]
  rw [wr_I (by omega) (by omega) (by omega), Int.toNat_natCast, show I c - 48 = I (c - 48) from I_sub c 48, I_64 (by omega) (by omega), I_64 (by omega) (by omega), show (9 : Int64) = Lg 9 from rfl, m_in N (by omega) (by omega) (by omega) (by omega) (by omega) (by omega), Option.bind_some]
  exact bo_g _ _
theorem m_pivot (N : Nat) {v : MSt} {c : Int} (c1 : 0 ≤ c) (c2 : c ≤ 200) : mM_goPivot N v (I c) = some (I (bo (97 ≤ c ∧ c ≤ 104)), siM (saM (saM v 3 1 (I (c - 97))) 3 2 (I 0)) 2 (I 2)) := by
  unfold mM_goPivot
  simp only [nm]
  rw [show (1 : Int32) = I 1 from rfl, show (2 : Int32) = I 2 from rfl, show (0 : Int32) = I 0 from rfl, wr_I (by omega) (by omega) (by omega), wr_I (by omega) (by omega) (by omega), show I c - 97 = I (c - 97) from I_sub c 97, I_64 (by omega) (by omega), show (97 : Int64) = Lg 97 from rfl, show (104 : Int64) = Lg 104 from rfl, m_in N (by omega) (by omega) (by omega) (by omega) (by omega) (by omega), Option.bind_some]
  exact bo_g _ _
theorem x_pivot (N : Nat) {u : USt} {c : Int} (c1 : 0 ≤ c) (c2 : c ≤ 200) : mX7_takesPivot N u (I c) = if 97 ≤ c ∧ c ≤ 104 then some (1, siX (siX u 3 (I (c - 97))) 1 (I 2)) else some (0, u) := by
  unfold mX7_takesPivot
  simp only [nm]
  rw [show I c - 97 = I (c - 97) from I_sub c 97, x_isIslet N (by omega) (by omega), Option.bind_some]
  by_cases q : 97 ≤ c ∧ c ≤ 104
  · rw [bo_t (by omega), if_pos (by decide), if_pos q]
    rfl
  · rw [bo_f (by omega), if_neg (by decide), if_neg q]
theorem rd_pivot {u : USt} {v : MSt} {r : Int → Int} {c : Int} (hr : RowR v r) (h2 : u.1 2 = I (r 0)) (h20 : 0 ≤ r 0 ∧ r 0 ≤ 3) (h8 : u.1 8 = I (r 9)) (h89 : 1 ≤ r 9 ∧ r 9 ≤ 9) (h4 : u.1 4 = I 0) (hc : 97 ≤ c ∧ c ≤ 104) : ReadR (siX (siX u 3 (I (c - 97))) 1 (I 2)) (siM (saM (saM v 3 1 (I (c - 97))) 3 2 (I 0)) 2 (I 2)) 2 (fup (fup r 1 (c - 97)) 2 0) := by
  have e0 : fup (fup r 1 (c - 97)) 2 0 0 = r 0 := rfl
  have e1 : fup (fup r 1 (c - 97)) 2 0 1 = c - 97 := rfl
  have e2 : fup (fup r 1 (c - 97)) 2 0 2 = 0 := rfl
  have e9 : fup (fup r 1 (c - 97)) 2 0 9 = r 9 := rfl
  refine ⟨(hr.up 1 (c - 97)).up 2 0, rfl, by omega, rfl, fun q => by omega, fun _ => ⟨h2, h20, h8, h89⟩, fun q => by omega, fun _ => ⟨rfl, ?_, h4, ?_, fun j j1 j2 => ?_⟩, fun _ => rfl, fun q => by omega, fun q => by omega, fun q => by omega, fun q => by omega⟩
  · rw [e1]; omega
  · rw [e2]; omega
  · rw [e2] at j2; omega
theorem st_0 (N : Nat) {u : USt} {v : MSt} {r : Int → Int} {c : Int} (h : ReadR u v 0 r) (c1 : 1 ≤ c) (c2 : c ≤ 126) : Step2 N u v c := by
  obtain ⟨hr, h1, -, hq, hz, -, h4, -⟩ := h
  obtain ⟨z2, z8⟩ := hz rfl
  have h4 := h4 (by omega)
  have hq : v.1 2 = I 0 := hq
  have X : mX7_takes N u (I c) = bp (mX7_takesSign N u (I c)) (fun r2 u3 => if ¬ r2 = 0 then (mX7_takes_80 N u3) else (bp (mX7_takesPivot N u3 (I c)) (fun r4 u5 => if r4 = 0 then (mX7_takes_85 N u5 0) else (mX7_takes_80 N u5)))) := by
    unfold mX7_takes
    simp only [nm]
    rw [h1]
    rfl
  have M : ∀ k : Int, (0 ≤ k ∧ k ≤ 3) → mM_signOf N (I c) = some (I k) → mM_go N v (I c) = if 0 < I k then some (1, siM (saM (saM v 3 0 (I k)) 3 9 (I 9)) 2 (I 1)) else bp (mM_goPivot N (siM (saM (saM v 3 0 (I k)) 3 9 (I 9)) 2 (I 1)) (I c)) (fun r9 u10 => if r9 = 0 then (mM_go_84 N u10 0) else (mM_go_79 N u10)) := by
    intro k hk e
    unfold mM_go
    simp only [nm]
    rw [hq, e]
    rfl
  have S : ∀ k : Int, (1 ≤ k ∧ k ≤ 3) → mX7_takesSign N u (I c) = some (1, siX (siX u 2 (I k)) 1 (I 1)) → mM_signOf N (I c) = some (I k) → Step2 N u v c := by
    intro k hk eX eM
    refine ⟨1, siX (siX u 2 (I k)) 1 (I 1), siM (saM (saM v 3 0 (I k)) 3 9 (I 9)) 2 (I 1), ?_, ?_, ((FX.refl u).si (by omega) (by omega)).si (by omega) (by omega), (((FM.refl v).sa).sa).si, .inr ⟨rfl, 1, fup (fup r 0 k) 9 9, (hr.up 0 k).up 9 9, rfl, by omega, rfl, fun q => by omega, fun _ => ⟨rfl, ?_, z8, (show (1 : Int) ≤ 9 by decide), (show (9 : Int) ≤ 9 by decide)⟩, fun _ => h4, fun q => by omega, fun q => by omega, fun q => by omega, fun q => by omega, fun q => by omega, fun q => by omega⟩⟩
    · rw [X, eX]
      rfl
    · rw [M k (by omega) eM, if_pos (show 0 < I k by rw [show (0 : Int32) = I 0 from rfl, I_lt (by omega) (by omega) (by omega) (by omega)]; omega)]
    · show 0 ≤ k ∧ k ≤ 3
      omega
  by_cases q1 : c = 42
  · subst q1
    exact S 1 (by omega) rfl rfl
  by_cases q2 : c = 61
  · subst q2
    exact S 3 (by omega) rfl rfl
  by_cases q3 : c = 126
  · subst q3
    exact S 2 (by omega) rfl rfl
  have n1 : ¬ I c = 42 := by
    rw [show (42 : Int32) = I 42 from rfl, I_eq (by omega) (by omega) (by omega) (by omega)]; exact q1
  have n2 : ¬ I c = 61 := by
    rw [show (61 : Int32) = I 61 from rfl, I_eq (by omega) (by omega) (by omega) (by omega)]; exact q2
  have n3 : ¬ I c = 126 := by
    rw [show (126 : Int32) = I 126 from rfl, I_eq (by omega) (by omega) (by omega) (by omega)]; exact q3
  have eX : mX7_takesSign N u (I c) = some (0, u) := by
    unfold mX7_takesSign
    rw [if_neg n1, if_neg n2, if_neg n3]
  have eM : mM_signOf N (I c) = some (I 0) := by
    unfold mM_signOf
    rw [if_pos n1, if_pos n3, if_pos n2]
    rfl
  have E : mM_go N v (I c) = if 97 ≤ c ∧ c ≤ 104 then some (1, siM (saM (saM (siM (saM (saM v 3 0 (I 0)) 3 9 (I 9)) 2 (I 1)) 3 1 (I (c - 97))) 3 2 (I 0)) 2 (I 2)) else some (0, siM (saM (saM (siM (saM (saM v 3 0 (I 0)) 3 9 (I 9)) 2 (I 1)) 3 1 (I (c - 97))) 3 2 (I 0)) 2 (I 2)) := by
    rw [M 0 (by omega) eM, if_neg (by decide), m_pivot N (by omega) (by omega)]
    by_cases q : 97 ≤ c ∧ c ≤ 104
    · rw [if_pos q, bo_t q]
      rfl
    · rw [if_neg q, bo_f q]
      rfl
  by_cases q : 97 ≤ c ∧ c ≤ 104
  · rw [if_pos q] at E
    refine ⟨1, siX (siX u 3 (I (c - 97))) 1 (I 2), _, ?_, E, ((FX.refl u).si (by omega) (by omega)).si (by omega) (by omega), ((((((FM.refl v).sa).sa).si).sa).sa).si, .inr ⟨rfl, 2, _, rd_pivot (r := fup (fup r 0 0) 9 9) ((hr.up 0 0).up 9 9) z2 (show (0 : Int) ≤ 0 ∧ (0 : Int) ≤ 3 by decide) z8 (show (1 : Int) ≤ 9 ∧ (9 : Int) ≤ 9 by decide) h4 q⟩⟩
    rw [X, eX, bp_some, if_neg (by decide), x_pivot N (by omega) (by omega), if_pos q]
    rfl
  · rw [if_neg q] at E
    refine ⟨0, u, _, ?_, E, FX.refl u, ((((((FM.refl v).sa).sa).si).sa).sa).si, .inl ⟨rfl, rfl⟩⟩
    rw [X, eX, bp_some, if_neg (by decide), x_pivot N (by omega) (by omega), if_neg q]
    rfl
theorem st_1 (N : Nat) {u : USt} {v : MSt} {r : Int → Int} {c : Int} (h : ReadR u v 1 r) (c1 : 1 ≤ c) (c2 : c ≤ 126) : Step2 N u v c := by
  obtain ⟨hr, h1, -, hq, -, hz, h4, -⟩ := h
  obtain ⟨z2, z20, z8, z89⟩ := hz (by omega)
  have h4 := h4 (by omega)
  have hq : v.1 2 = I 1 := hq
  have X : mX7_takes N u (I c) = bp (mX7_takesPivot N u (I c)) (fun r6 u7 => gd (r6 = 0 ∨ r6 = 1) (some (r6, u7))) := by
    unfold mX7_takes
    simp only [nm]
    rw [h1]
    rfl
  have M : mM_go N v (I c) = bp (mM_goPivot N v (I c)) (fun r11 u12 => gd (r11 = 0 ∨ r11 = 1) (some (r11, u12))) := by
    unfold mM_go
    simp only [nm]
    rw [hq]
    rfl
  rw [m_pivot N (by omega) (by omega)] at M
  rw [x_pivot N (by omega) (by omega)] at X
  by_cases q : 97 ≤ c ∧ c ≤ 104
  · rw [bo_t q] at M
    rw [if_pos q] at X
    exact ⟨1, _, _, X, M, ((FX.refl u).si (by omega) (by omega)).si (by omega) (by omega), (((FM.refl v).sa).sa).si, .inr ⟨rfl, 2, _, rd_pivot hr z2 z20 z8 z89 h4 q⟩⟩
  · rw [bo_f q] at M
    rw [if_neg q] at X
    exact ⟨0, _, _, X, M, FX.refl u, (((FM.refl v).sa).sa).si, .inl ⟨rfl, rfl⟩⟩
theorem x_mark (N : Nat) {u : USt} {c m s : Int} (h1 : u.1 1 = I s) (c1 : 0 ≤ c) (c2 : c ≤ 200) (m1 : 0 ≤ m) (m2 : m ≤ 200) : mX7_takesMark N u (I c) (I m) = if c = m then some (1, siX u 1 (I (s + 1))) else some (0, u) := by
  unfold mX7_takesMark
  simp only [nm]
  rw [h1, show I s + 1 = I (s + 1) from I_add s 1]
  by_cases q : c = m
  · rw [if_pos q, if_pos (by rw [q])]
  · rw [if_neg q, if_neg (by rw [I_eq (by omega) (by omega) (by omega) (by omega)]; exact q)]
theorem ReadR.next {u : USt} {v : MSt} {s : Int} {r : Int → Int} (h : ReadR u v s r) (hs : s = 2 ∨ s = 5 ∨ s = 7 ∨ s = 9) : ReadR (siX u 1 (I (s + 1))) (siM v 2 (I (qst s (r 2) + 1))) (s + 1) r := by
  obtain ⟨hr, h1, h2, hq, h3, h4, h5, h6, h7, h8, h9, h10, h11⟩ := h
  refine ⟨hr, rfl, by omega, ?_, fun q => by omega, fun _ => h4 (by omega), fun q => by omega, fun _ => h6 (by omega), fun q => by omega, fun q => h8 (by omega), fun q => h9 (by omega), fun q => h10 (by omega), fun q => h11 (by omega)⟩
  show I (qst s (r 2) + 1) = I (qst (s + 1) (r 2))
  congr 1
  rcases hs with rfl | rfl | rfl | rfl
  · rw [h7 rfl]
    rfl
  · rfl
  · rfl
  · rfl
theorem st_mark (N : Nat) {u : USt} {v : MSt} {r : Int → Int} {c s : Int} (h : ReadR u v s r) (c1 : 1 ≤ c) (c2 : c ≤ 126) (hs : s = 2 ∨ s = 5 ∨ s = 7 ∨ s = 9) : Step2 N u v c := by
  have h' := h
  obtain ⟨hr, h1, h2, hq, h3, h4, h5, h6, h7, h8, h9, h10, h11⟩ := h
  obtain ⟨m, hm1, hm2, X, M⟩ : ∃ m : Int, 0 ≤ m ∧ m ≤ 200 ∧ (mX7_takes N u (I c) = bp (mX7_takesMark N u (I c) (I m)) (fun r8 u9 => gd (r8 = 0 ∨ r8 = 1) (some (r8, u9)))) ∧ mM_go N v (I c) = if ¬ I c = I m then mM_go_277 N (siM v 2 (I (qst s (r 2) + 1))) 0 else mM_go_277 N (siM v 2 (I (qst s (r 2) + 1))) 1 := by
    rw [← I_add]
    rcases hs with rfl | rfl | rfl | rfl
    · have hq : v.1 2 = I 2 := hq
      refine ⟨58, by omega, by omega, ?_, ?_⟩
      · unfold mX7_takes
        simp only [nm]
        rw [h1]
        rfl
      · unfold mM_go mM_go_116
        simp only [nm]
        rw [hq]
        rfl
    · have hq : v.1 2 = I 6 := hq
      refine ⟨47, by omega, by omega, ?_, ?_⟩
      · unfold mX7_takes
        simp only [nm]
        rw [h1]
        rfl
      · unfold mM_go mM_go_116
        simp only [nm]
        rw [hq]
        rfl
    · have hq : v.1 2 = I 8 := hq
      refine ⟨43, by omega, by omega, ?_, ?_⟩
      · unfold mX7_takes
        simp only [nm]
        rw [h1]
        rfl
      · unfold mM_go mM_go_116
        simp only [nm]
        rw [hq]
        rfl
    · have hq : v.1 2 = I 10 := hq
      refine ⟨119, by omega, by omega, ?_, ?_⟩
      · unfold mX7_takes
        simp only [nm]
        rw [h1]
        rfl
      · unfold mM_go mM_go_116
        simp only [nm]
        rw [hq]
        rfl
  rw [x_mark N h1 (by omega) (by omega) hm1 hm2] at X
  by_cases q : c = m
  · rw [if_pos q] at X
    rw [if_neg (by rw [q]; exact not_not_intro rfl)] at M
    exact ⟨1, _, _, X, M, (FX.refl u).si (by omega) (by omega), (FM.refl v).si, .inr ⟨rfl, s + 1, r, h'.next hs⟩⟩
  · rw [if_neg q] at X
    rw [if_pos (by rw [I_eq (by omega) (by omega) (by omega) (by omega)]; exact q)] at M
    exact ⟨0, _, _, X, M, FX.refl u, (FM.refl v).si, .inl ⟨rfl, rfl⟩⟩
theorem st_11 (N : Nat) {u : USt} {v : MSt} {r : Int → Int} {c : Int} (h : ReadR u v 11 r) : Step2 N u v c := by
  obtain ⟨hr, h1, h2, hq, -⟩ := h
  have hq : v.1 2 = I 12 := hq
  refine ⟨0, u, siM v 2 (v.1 2 + 1), ?_, ?_, FX.refl u, (FM.refl v).si, .inl ⟨rfl, rfl⟩⟩
  · unfold mX7_takes
    simp only [nm]
    rw [h1]
    rfl
  · unfold mM_go mM_go_116
    simp only [nm]
    rw [hq]
    rfl
/-- the digit's stage: the class's field, the row's place, the least -/
theorem st_dig (N : Nat) {u : USt} {v : MSt} {r : Int → Int} {c s : Int} (h : ReadR u v s r) (c1 : 1 ≤ c) (c2 : c ≤ 126) (hs : s = 4 ∨ s = 6 ∨ s = 8 ∨ s = 10) : Step2 N u v c := by
  obtain ⟨hr, h1, h2, hq, h3, h4, h5, h6, h7, h8, h9, h10, h11⟩ := h
  have key : ∀ (fk k : Nat) (m : Int), (s = 4 ∧ fk = 5 ∧ k = 6 ∧ m = 1 ∨ s = 6 ∧ fk = 6 ∧ k = 7 ∧ m = 1 ∨ s = 8 ∧ fk = 7 ∧ k = 8 ∧ m = 0 ∨ s = 10 ∧ fk = 8 ∧ k = 9 ∧ m = 1) → mX7_takesDigit_19 N u (I (c - 48)) (I m) = (if I (c - 48) < I m then some (0, u) else if I (c - 48) ≤ 9 then some (1, siX (siX u fk (I (c - 48))) 1 (I (s + 1))) else some (0, u)) → mX7_takes N u (I c) = mX7_takes_155 N u (I c) → mX7_takesDigit N u (I c) = mX7_takesDigit_19 N u (I c - 48) (I m) → mM_go N v (I c) = bp (mM_goDigit N (siM v 2 (v.1 2 + 1)) (I c) (I k) (I m)) (fun r4 u5 => mM_go_277 N u5 r4) → Step2 N u v c := by
    intro fk k m hc X1 X2 X3 M
    rw [m_digit N (by omega) (by omega) (by omega) (by omega) (by omega), bp_some] at M
    unfold mX7_takes_155 at X2
    rw [X3, show I c - 48 = I (c - 48) from I_sub c 48, X1] at X2
    by_cases q : m ≤ c - 48 ∧ c - 48 ≤ 9
    · rw [bo_t q] at M
      rw [if_neg (by rw [I_lt (by omega) (by omega) (by omega) (by omega)]; omega), if_pos (by rw [show (9 : Int32) = I 9 from rfl, I_le (by omega) (by omega) (by omega) (by omega)]; omega)] at X2
      refine ⟨1, _, _, X2, M, ((FX.refl u).si (by omega) (by omega)).si (by omega) (by omega), ((FM.refl v).si).sa, .inr ⟨rfl, s + 1, fup r k (c - 48), ?_⟩⟩
      have hR : RowR (saM (siM v 2 (v.1 2 + 1)) 3 k (I (c - 48))) (fup r k (c - 48)) := RowR.up (v := siM v 2 (v.1 2 + 1)) hr k (c - 48)
      have f0 : fup r k (c - 48) 0 = r 0 := fup_ne (by omega)
      have f1 : fup r k (c - 48) 1 = r 1 := fup_ne (by omega)
      have f2 : fup r k (c - 48) 2 = r 2 := fup_ne (by omega)
      refine ⟨hR, rfl, by omega, ?_, fun q => by omega, fun _ => ?_, fun q => by omega, fun _ => ?_, fun q => by omega, fun _ => by rw [f2]; exact h8 (by omega), fun q5 => ?_, fun q7 => ?_, fun q9 => ?_⟩
      · show v.1 2 + 1 = _
        rw [hq, f2]
        rcases hs with rfl | rfl | rfl | rfl <;> rfl
      · obtain ⟨a1, a2, a3, a4⟩ := h4 (by omega)
        rw [f0]
        refine ⟨?_, a2, ?_⟩
        · show va_up (va_up u.1 fk (I (c - 48))) 1 (I (s + 1)) 2 = _
          rw [vu_ne (by omega), vu_ne (by omega)]
          exact a1
        · show va_up (va_up u.1 fk (I (c - 48))) 1 (I (s + 1)) 8 = _ ∧ _
          rw [vu_ne (by omega)]
          by_cases q10 : s = 10
          · have : fk = 8 := by omega
            subst this
            have : k = 9 := by omega
            subst this
            rw [vu_eq, show fup r ((9 : Nat) : Int) (c - 48) 9 = c - 48 from rfl]
            exact ⟨rfl, by omega, by omega⟩
          · rw [vu_ne (by omega), fup_ne (by omega)]
            exact ⟨a3, a4⟩
      · obtain ⟨a1, a2, a3, a4, a5⟩ := h6 (by omega)
        rw [f1, f2]
        refine ⟨?_, a2, ?_, a4, fun j j1 j2 => ?_⟩
        · show va_up (va_up u.1 fk (I (c - 48))) 1 (I (s + 1)) 3 = _
          rw [vu_ne (by omega), vu_ne (by omega)]
          exact a1
        · show va_up (va_up u.1 fk (I (c - 48))) 1 (I (s + 1)) 4 = _
          rw [vu_ne (by omega), vu_ne (by omega)]
          exact a3
        · rw [fup_ne (by omega)]
          exact a5 j j1 j2
      · show va_up (va_up u.1 fk (I (c - 48))) 1 (I (s + 1)) 5 = _ ∧ _
        rw [vu_ne (by omega)]
        by_cases q10 : s = 4
        · have : fk = 5 := by omega
          subst this
          have : k = 6 := by omega
          subst this
          rw [vu_eq, show fup r ((6 : Nat) : Int) (c - 48) 6 = c - 48 from rfl]
          exact ⟨rfl, by omega, by omega⟩
        · rw [vu_ne (by omega), fup_ne (by omega)]
          exact h9 (by omega)
      · show va_up (va_up u.1 fk (I (c - 48))) 1 (I (s + 1)) 6 = _ ∧ _
        rw [vu_ne (by omega)]
        by_cases q10 : s = 6
        · have : fk = 6 := by omega
          subst this
          have : k = 7 := by omega
          subst this
          rw [vu_eq, show fup r ((7 : Nat) : Int) (c - 48) 7 = c - 48 from rfl]
          exact ⟨rfl, by omega, by omega⟩
        · rw [vu_ne (by omega), fup_ne (by omega)]
          exact h10 (by omega)
      · show va_up (va_up u.1 fk (I (c - 48))) 1 (I (s + 1)) 7 = _ ∧ _
        rw [vu_ne (by omega)]
        by_cases q10 : s = 8
        · have : fk = 7 := by omega
          subst this
          have : k = 8 := by omega
          subst this
          rw [vu_eq, show fup r ((8 : Nat) : Int) (c - 48) 8 = c - 48 from rfl]
          exact ⟨rfl, by omega, by omega⟩
        · rw [vu_ne (by omega), fup_ne (by omega)]
          exact h11 (by omega)
    · rw [bo_f q] at M
      refine ⟨0, u, _, ?_, M, FX.refl u, ((FM.refl v).si).sa, .inl ⟨rfl, rfl⟩⟩
      rw [X2]
      by_cases q1 : c - 48 < m
      · rw [if_pos (by rw [I_lt (by omega) (by omega) (by omega) (by omega)]; exact q1)]
        rfl
      · rw [if_neg (by rw [I_lt (by omega) (by omega) (by omega) (by omega)]; exact q1), if_neg (by rw [show (9 : Int32) = I 9 from rfl, I_le (by omega) (by omega) (by omega) (by omega)]; omega)]
        rfl
  rcases hs with rfl | rfl | rfl | rfl
  · have hq : v.1 2 = I 5 := hq
    have T : ∀ x : Int32, mX7_takesDigit_101 N (siX u 5 x) = some (1, siX (siX u 5 x) 1 (I 5)) := fun x => by
      show some (1, siX (siX u 5 x) 1 (u.1 1 + 1)) = _
      rw [h1]
      rfl
    refine key 5 6 1 (by omega) ?_ ?_ ?_ ?_
    · unfold mX7_takesDigit_19
      simp only [nm]
      rw [h1]
      show (if I (c - 48) < I 1 then some (0, u) else if I (c - 48) ≤ 9 then mX7_takesDigit_101 N (siX u 5 (I (c - 48))) else some (0, u)) = _
      rw [T]
      rfl
    · unfold mX7_takes
      simp only [nm]
      rw [h1]
      rfl
    · unfold mX7_takesDigit
      simp only [nm]
      rw [h1]
      rfl
    · unfold mM_go mM_go_116
      simp only [nm]
      rw [hq]
      rfl
  · have hq : v.1 2 = I 7 := hq
    have T : ∀ x : Int32, mX7_takesDigit_101 N (siX u 6 x) = some (1, siX (siX u 6 x) 1 (I 7)) := fun x => by
      show some (1, siX (siX u 6 x) 1 (u.1 1 + 1)) = _
      rw [h1]
      rfl
    refine key 6 7 1 (by omega) ?_ ?_ ?_ ?_
    · unfold mX7_takesDigit_19
      simp only [nm]
      rw [h1]
      show (if I (c - 48) < I 1 then some (0, u) else if I (c - 48) ≤ 9 then mX7_takesDigit_101 N (siX u 6 (I (c - 48))) else some (0, u)) = _
      rw [T]
      rfl
    · unfold mX7_takes
      simp only [nm]
      rw [h1]
      rfl
    · unfold mX7_takesDigit
      simp only [nm]
      rw [h1]
      rfl
    · unfold mM_go mM_go_116
      simp only [nm]
      rw [hq]
      rfl
  · have hq : v.1 2 = I 9 := hq
    have T : ∀ x : Int32, mX7_takesDigit_101 N (siX u 7 x) = some (1, siX (siX u 7 x) 1 (I 9)) := fun x => by
      show some (1, siX (siX u 7 x) 1 (u.1 1 + 1)) = _
      rw [h1]
      rfl
    refine key 7 8 0 (by omega) ?_ ?_ ?_ ?_
    · unfold mX7_takesDigit_19
      simp only [nm]
      rw [h1]
      show (if I (c - 48) < I 0 then some (0, u) else if I (c - 48) ≤ 9 then mX7_takesDigit_101 N (siX u 7 (I (c - 48))) else some (0, u)) = _
      rw [T]
      rfl
    · unfold mX7_takes
      simp only [nm]
      rw [h1]
      rfl
    · unfold mX7_takesDigit
      simp only [nm]
      rw [h1]
      rfl
    · unfold mM_go mM_go_116
      simp only [nm]
      rw [hq]
      rfl
  · have hq : v.1 2 = I 11 := hq
    have T : ∀ x : Int32, mX7_takesDigit_101 N (siX u 8 x) = some (1, siX (siX u 8 x) 1 (I 11)) := fun x => by
      show some (1, siX (siX u 8 x) 1 (u.1 1 + 1)) = _
      rw [h1]
      rfl
    refine key 8 9 1 (by omega) ?_ ?_ ?_ ?_
    · unfold mX7_takesDigit_19
      simp only [nm]
      rw [h1]
      show (if I (c - 48) < I 1 then some (0, u) else if I (c - 48) ≤ 9 then mX7_takesDigit_101 N (siX u 8 (I (c - 48))) else some (0, u)) = _
      rw [T]
      rfl
    · unfold mX7_takes
      simp only [nm]
      rw [h1]
      rfl
    · unfold mX7_takesDigit
      simp only [nm]
      rw [h1]
      rfl
    · have E : mM_go N v (I c) = bp (mM_goDigit N (siM v 2 (v.1 2 + 1)) (I c) (I (9 : Nat)) (I 1)) (fun r2 u3 => if r2 = 0 then mM_go_276 N u3 else mM_go_277 N u3 1) := by
        unfold mM_go mM_go_116
        simp only [nm]
        rw [hq]
        rfl
      rw [E, m_digit N (by omega) (by omega) (by omega) (by omega) (by omega), bp_some, bp_some]
      by_cases q : 1 ≤ c - 48 ∧ c - 48 ≤ 9
      · rw [bo_t q]
        rfl
      · rw [bo_f q]
        rfl
/-- one of the next d ends is x -/
def dpE (r : Int → Int) (x : Int) : Nat → Int → Int
  | 0, _ => 0
  | d + 1, j => if r (3 + j) = x then 1 else dpE r x d (j + 1)
theorem dpE_b (r : Int → Int) (x : Int) : ∀ (d : Nat) (j : Int), dpE r x d j = 0 ∨ dpE r x d j = 1 := by
  intro d
  induction d with
  | zero => exact fun j => .inl rfl
  | succ d ih =>
    intro j
    unfold dpE
    split
    · exact .inr rfl
    · exact ih _
theorem x_ends_l (N : Nat) {u : USt} {r : Int → Int} {x : Int} (h4 : u.1 4 = I (r 2)) (h40 : 0 ≤ r 2 ∧ r 2 ≤ 2) (he : ∀ j : Int, 0 ≤ j → j < r 2 → u.2 4 j.toNat = I (r (3 + j)) ∧ 0 ≤ r (3 + j) ∧ r (3 + j) ≤ 7) (x1 : 0 ≤ x) (x2 : x ≤ 7) : ∀ (d f : Nat) (j : Int), d < f → (d : Int) = r 2 - j → 0 ≤ j → mX7_takesEnd_h36 N f u (I x) (I j) = if dpE r x d j = 1 then some (0, u) else some (1, saX (siX u 4 (I (r 2 + 1))) 4 (r 2).toNat (I x)) := by
  intro d
  induction d with
  | zero =>
    intro f j hf hd hj
    obtain ⟨f, rfl⟩ : ∃ g, f = g + 1 := ⟨f - 1, by omega⟩
    show mX7_takesEnd_36 N _ _ _ _ = _
    unfold mX7_takesEnd_36
    simp only [nm]
    rw [h4, if_pos (show I (r 2) ≤ I j by rw [I_le (by omega) (by omega) (by omega) (by omega)]; omega), wrX_4 (by omega) (by omega), show I (r 2) + 1 = I (r 2 + 1) from I_add _ 1]
    rfl
  | succ d ih =>
    intro f j hf hd hj
    obtain ⟨f, rfl⟩ : ∃ g, f = g + 1 := ⟨f - 1, by omega⟩
    obtain ⟨e1, e2, e3⟩ := he j hj (by omega)
    show mX7_takesEnd_36 N _ _ _ _ = _
    unfold mX7_takesEnd_36
    simp only [nm]
    rw [h4, if_neg (show ¬ I (r 2) ≤ I j by rw [I_le (by omega) (by omega) (by omega) (by omega)]; omega), rdX_4 (by omega) (by omega), e1, show I j + 1 = I (j + 1) from I_add j 1, ih f (j + 1) (by omega) (by omega) (by omega)]
    have e : dpE r x (d + 1) j = if r (3 + j) = x then 1 else dpE r x d (j + 1) := rfl
    rw [e]
    by_cases q : r (3 + j) = x
    · rw [if_pos q, if_neg (show ¬ ¬ I (r (3 + j)) = I x by rw [q]; exact not_not_intro rfl), if_pos rfl]
    · rw [if_neg q, if_pos (show ¬ I (r (3 + j)) = I x by rw [I_eq (by omega) (by omega) (by omega) (by omega)]; exact q)]
theorem m_ends_l (N : Nat) {v : MSt} {r : Int → Int} {x : Int} (hr : RowR v r) (h40 : 0 ≤ r 2 ∧ r 2 ≤ 3) (he : ∀ j : Int, 0 ≤ j → j < r 2 → 0 ≤ r (3 + j) ∧ r (3 + j) ≤ 7) (x1 : -200 ≤ x) (x2 : x ≤ 200) : ∀ (d f : Nat) (j g : Int), d < f → (d : Int) = r 2 - j → 0 ≤ j → (g = 0 ∨ g = 1) → mM_goEnd_h46 N f v (I x) (I g) (I j) = mM_goEnd_86 N v (I x) (I (if g = 0 then 0 else 1 - dpE r x d j)) := by
  intro d
  have h2 : v.2.1 3 (2 : Int).toNat = I (r 2) := hr 2 (by omega)
  induction d with
  | zero =>
    intro f j g hf hd hj hg
    obtain ⟨f, rfl⟩ : ∃ g, f = g + 1 := ⟨f - 1, by omega⟩
    show mM_goEnd_46 N _ _ _ _ _ = _
    unfold mM_goEnd_46
    rw [show (2 : Int32) = I 2 from rfl, rd_I (by omega) (by omega) (by omega), h2, if_pos (show I (r 2) ≤ I j by rw [I_le (by omega) (by omega) (by omega) (by omega)]; omega)]
    unfold dpE
    rcases hg with rfl | rfl <;> rfl
  | succ d ih =>
    intro f j g hf hd hj hg
    obtain ⟨f, rfl⟩ : ∃ g, f = g + 1 := ⟨f - 1, by omega⟩
    obtain ⟨e2, e3⟩ := he j hj (by omega)
    show mM_goEnd_46 N _ _ _ _ _ = _
    unfold mM_goEnd_46 mM_goEnd_79
    rw [show (2 : Int32) = I 2 from rfl, rd_I (by omega) (by omega) (by omega), h2, if_neg (show ¬ I (r 2) ≤ I j by rw [I_le (by omega) (by omega) (by omega) (by omega)]; omega)]
    rcases hg with rfl | rfl
    · rw [if_pos (show I 0 = 0 from rfl), if_pos rfl]
    · rw [if_neg (show ¬ I 1 = 0 by decide), if_neg (show ¬ (1 : Int) = 0 by decide), show 3 + I j = I (3 + j) from I_add 3 j, rd_I (by omega) (by omega) (by omega), show v.2.1 3 (3 + j).toNat = I (r (3 + j)) by (have := hr (3 + j).toNat (by omega); rw [this]; congr 2; omega), show I j + 1 = I (j + 1) from I_add j 1]
      have e : dpE r x (d + 1) j = if r (3 + j) = x then 1 else dpE r x d (j + 1) := rfl
      rw [e]
      by_cases q : r (3 + j) = x
      · rw [if_pos q, if_pos (show I (r (3 + j)) = I x by rw [q])]
        exact (ih f (j + 1) 0 (by omega) (by omega) (by omega) (.inl rfl)).trans rfl
      · rw [if_neg q, if_neg (show ¬ I (r (3 + j)) = I x by rw [I_eq (by omega) (by omega) (by omega) (by omega)]; exact q)]
        exact (ih f (j + 1) 1 (by omega) (by omega) (by omega) (.inr rfl)).trans rfl
/-- may x be a new end -/
def okE (r : Int → Int) (x : Int) : Prop := (0 ≤ x ∧ x ≤ 7) ∧ x ≠ r 1 ∧ r 2 < 3 ∧ dpE r x (r 2).toNat 0 = 0
theorem x_end {u : USt} {r : Int → Int} {c : Int} (h3 : u.1 3 = I (r 1)) (h30 : 0 ≤ r 1 ∧ r 1 ≤ 7) (h4 : u.1 4 = I (r 2)) (h40 : 0 ≤ r 2 ∧ r 2 ≤ 3) (he : ∀ j : Int, 0 ≤ j → j < r 2 → u.2 4 j.toNat = I (r (3 + j)) ∧ 0 ≤ r (3 + j) ∧ r (3 + j) ≤ 7) (c1 : 0 ≤ c) (c2 : c ≤ 200) : (okE r (c - 97) → mX7_takesEnd NF u (I c) = some (1, saX (siX u 4 (I (r 2 + 1))) 4 (r 2).toNat (I (c - 97)))) ∧ (¬ okE r (c - 97) → mX7_takesEnd NF u (I c) = some (0, u)) := by
  have hN := NF_big
  unfold mX7_takesEnd mX7_takesEnd_32
  simp only [nm]
  rw [show I c - 97 = I (c - 97) from I_sub c 97, x_isIslet NF (by omega) (by omega), Option.bind_some, h3, h4]
  show (okE r (c - 97) → (if I (bo (0 ≤ c - 97 ∧ c - 97 < 8)) = 0 then some (0, u) else if I (c - 97) = I (r 1) then some (0, u) else if I (r 2) < I 3 then mX7_takesEnd_h36 NF NF u (I (c - 97)) (I 0) else some (0, u)) = _) ∧ (¬ okE r (c - 97) → (if I (bo (0 ≤ c - 97 ∧ c - 97 < 8)) = 0 then some (0, u) else if I (c - 97) = I (r 1) then some (0, u) else if I (r 2) < I 3 then mX7_takesEnd_h36 NF NF u (I (c - 97)) (I 0) else some (0, u)) = _)
  by_cases q1 : 0 ≤ c - 97 ∧ c - 97 < 8
  · rw [bo_t q1, if_neg (show ¬ I 1 = 0 by decide)]
    by_cases q2 : c - 97 = r 1
    · rw [if_pos (by rw [q2])]
      exact ⟨fun h => absurd q2 h.2.1, fun _ => rfl⟩
    · rw [if_neg (show ¬ I (c - 97) = I (r 1) by rw [I_eq (by omega) (by omega) (by omega) (by omega)]; exact q2)]
      by_cases q3 : r 2 < 3
      · rw [if_pos (show I (r 2) < I 3 by rw [I_lt (by omega) (by omega) (by omega) (by omega)]; exact q3), x_ends_l NF h4 (by omega) he (by omega) (by omega) (r 2).toNat NF 0 (by omega) (by omega) (by omega)]
        have hd := dpE_b r (c - 97) (r 2).toNat 0
        refine ⟨fun h => ?_, fun h => ?_⟩
        · rw [if_neg (by rw [h.2.2.2]; decide)]
        · rw [if_pos]
          rcases hd with q | q
          · exact absurd ⟨⟨q1.1, by omega⟩, q2, q3, q⟩ h
          · exact q
      · rw [if_neg (show ¬ I (r 2) < I 3 by rw [I_lt (by omega) (by omega) (by omega) (by omega)]; exact q3)]
        exact ⟨fun h => absurd h.2.2.1 q3, fun _ => rfl⟩
  · rw [bo_f q1, if_pos (show I 0 = 0 from rfl)]
    exact ⟨fun h => absurd h.1 (by omega), fun _ => rfl⟩
theorem m_end {v : MSt} {r : Int → Int} {c : Int} (hr : RowR v r) (h30 : 0 ≤ r 1 ∧ r 1 ≤ 7) (h40 : 0 ≤ r 2 ∧ r 2 ≤ 3) (he : ∀ j : Int, 0 ≤ j → j < r 2 → 0 ≤ r (3 + j) ∧ r (3 + j) ≤ 7) (c1 : 0 ≤ c) (c2 : c ≤ 200) : (okE r (c - 97) → mM_goEnd NF v (I c) = some (1, siM (saM (saM v 3 (3 + r 2).toNat (I (c - 97))) 3 2 (I (r 2 + 1))) 2 (I 4))) ∧ (¬ okE r (c - 97) → mM_goEnd NF v (I c) = some (0, siM v 2 (I 4))) := by
  have hN := NF_big
  have h1 : v.2.1 3 (1 : Int).toNat = I (r 1) := hr 1 (by omega)
  have h2 : v.2.1 3 (2 : Int).toNat = I (r 2) := hr 2 (by omega)
  have F : mM_goEnd_86 NF v (I (c - 97)) (I 0) = some (0, siM v 2 (I 4)) := rfl
  have F0 : mM_goEnd_h46 NF NF v (I (c - 97)) (I 0) (I 0) = some (0, siM v 2 (I 4)) := by
    rw [m_ends_l NF hr h40 he (by omega) (by omega) (r 2).toNat NF 0 0 (by omega) (by omega) (by omega) (.inl rfl), if_pos rfl]
    exact F
  unfold mM_goEnd mM_goEnd_41 mM_goEnd_42
  simp only [nm]
  rw [show I c - 97 = I (c - 97) from I_sub c 97, I_64 (by omega) (by omega), show (0 : Int64) = Lg 0 from rfl, show (7 : Int64) = Lg 7 from rfl, m_in NF (by omega) (by omega) (by omega) (by omega) (by omega) (by omega), Option.bind_some, show (1 : Int32) = I 1 from rfl, show (2 : Int32) = I 2 from rfl, show (0 : Int32) = I 0 from rfl, rd_I (by omega) (by omega) (by omega), rd_I (by omega) (by omega) (by omega), h1, h2, F0]
  by_cases q1 : 0 ≤ c - 97 ∧ c - 97 ≤ 7
  · rw [bo_t q1, if_neg (show ¬ I 1 = I 0 by decide)]
    by_cases q2 : c - 97 = r 1
    · rw [if_pos (by rw [q2])]
      exact ⟨fun h => absurd q2 h.2.1, fun _ => rfl⟩
    · rw [if_neg (show ¬ I (c - 97) = I (r 1) by rw [I_eq (by omega) (by omega) (by omega) (by omega)]; exact q2)]
      by_cases q3 : r 2 < 3
      · rw [if_neg (show ¬ 3 ≤ I (r 2) by rw [show (3 : Int32) = I 3 from rfl, I_le (by omega) (by omega) (by omega) (by omega)]; omega), m_ends_l NF hr h40 he (by omega) (by omega) (r 2).toNat NF 0 1 (by omega) (by omega) (by omega) (.inr rfl), if_neg (by omega)]
        have hd := dpE_b r (c - 97) (r 2).toNat 0
        refine ⟨fun h => ?_, fun h => ?_⟩
        · rw [h.2.2.2]
          unfold mM_goEnd_86 mM_goEnd_114
          simp only [nm]
          rw [if_neg (show ¬ I (1 - 0) = 0 by decide), show (2 : Int32) = I 2 from rfl, rd_I (by omega) (by omega) (by omega), h2, show 3 + I (r 2) = I (3 + r 2) from I_add 3 (r 2), wr_I (by omega) (by omega) (by omega), rd_I (by omega) (by omega) (by omega)]
          have e : va_up v.2.1 3 (upd (v.2.1 3) (3 + r 2).toNat (I (c - 97))) 3 (2 : Int).toNat = I (r 2) := by
            rw [vu_eq, ud_ne (by omega)]
            exact h2
          rw [e, wr_I (by omega) (by omega) (by omega), show I (r 2) + 1 = I (r 2 + 1) from I_add _ 1]
          rfl
        · have : dpE r (c - 97) (r 2).toNat 0 = 1 := by
            rcases hd with q | q
            · exact absurd ⟨q1, q2, q3, q⟩ h
            · exact q
          rw [this]
          exact F
      · rw [if_pos (show 3 ≤ I (r 2) by rw [show (3 : Int32) = I 3 from rfl, I_le (by omega) (by omega) (by omega) (by omega)]; omega)]
        exact ⟨fun h => absurd h.2.2.1 q3, fun _ => rfl⟩
  · rw [bo_f q1, if_pos (show I 0 = I 0 from rfl)]
    exact ⟨fun h => absurd h.1 q1, fun _ => rfl⟩
theorem st_3 {u : USt} {v : MSt} {r : Int → Int} {c : Int} (h : ReadR u v 3 r) (c1 : 1 ≤ c) (c2 : c ≤ 126) : Step2 NF u v c := by
  obtain ⟨hr, h1, h2, hq, h3, h4, h5, h6, h7, h8, h9, h10, h11⟩ := h
  have h4 := h4 (by omega)
  obtain ⟨a1, a2, a3, a4, a5⟩ := h6 (by omega)
  have X : mX7_takes NF u (I c) = bp (mX7_takesEnd NF u (I c)) (fun r10 u11 => if ¬ r10 = 0 then (mX7_takes_125 NF u11) else (nm (u11.1 4) (fun f12 => if f12 ≤ 0 then (mX7_takes_129 NF u11) else (bp (mX7_takesMark NF u11 (I c) 44) (fun r13 u14 => if r13 = 0 then (mX7_takes_129 NF u14) else (mX7_takes_125 NF u14)))))) := by
    unfold mX7_takes
    simp only [nm]
    rw [h1]
    rfl
  have M : mM_go NF v (I c) = if r 2 ≠ 0 ∧ c = 44 then some (1, siM v 2 (I 5)) else bp (mM_goEnd NF v (I c)) (fun r13 u14 => gd (r13 = 0 ∨ r13 = 1) (some (r13, u14))) := by
    by_cases q : r 2 = 0
    · rw [q] at hq
      have hq : v.1 2 = I 3 := hq
      rw [if_neg (fun g => g.1 q)]
      unfold mM_go
      simp only [nm]
      rw [hq]
      rfl
    · have hq : v.1 2 = I 4 := by
        rw [hq]
        unfold qst
        rw [if_neg (by decide), if_pos rfl, if_neg q]
      have E : mM_go NF v (I c) = if ¬ I c = 44 then (bp (mM_goEnd NF v (I c)) (fun r15 u16 => gd (r15 = 0 ∨ r15 = 1) (some (r15, u16)))) else (nm (siM v 2 5) (fun u17 => some (1, u17))) := by
        unfold mM_go
        simp only [nm]
        rw [hq]
        rfl
      rw [E]
      by_cases q4 : c = 44
      · rw [if_pos (show r 2 ≠ 0 ∧ c = 44 from ⟨q, q4⟩), q4]
        rfl
      · rw [if_neg (show ¬ (r 2 ≠ 0 ∧ c = 44) from fun g => q4 g.2), if_pos (show ¬ I c = 44 by rw [show (44 : Int32) = I 44 from rfl, I_eq (by omega) (by omega) (by omega) (by omega)]; exact q4)]
  have ex := x_end (c := c) a1 a2 a3 a4 (fun j j1 j2 => ⟨(a5 j j1 j2).1, (a5 j j1 j2).2.1, (a5 j j1 j2).2.2.1⟩) (by omega) (by omega)
  have em := m_end (c := c) hr a2 a4 (fun j j1 j2 => ⟨(a5 j j1 j2).2.1, (a5 j j1 j2).2.2.1⟩) (by omega) (by omega)
  by_cases q : okE r (c - 97)
  · have hx := q.1
    rw [if_neg (fun g => by omega), em.1 q, bp_some] at M
    rw [ex.1 q, bp_some, if_pos (by decide)] at X
    refine ⟨1, _, _, X, M, ((FX.refl u).si (by omega) (by omega)).sa, (((FM.refl v).sa).sa).si, .inr ⟨rfl, 3, fup (fup r (3 + r 2) (c - 97)) 2 (r 2 + 1), ?_⟩⟩
    have q3 := q.2.2.1
    have g2 : fup (fup r (3 + r 2) (c - 97)) 2 (r 2 + 1) 2 = r 2 + 1 := rfl
    have gn : ∀ z, z ≠ 2 → z ≠ 3 + r 2 → fup (fup r (3 + r 2) (c - 97)) 2 (r 2 + 1) z = r z := fun z z1 z2 => by rw [fup_ne z1, fup_ne z2]
    have R1 : RowR (siM (saM (saM v 3 (3 + r 2).toNat (I (c - 97))) 3 2 (I (r 2 + 1))) 2 (I 4)) (fup (fup r (3 + r 2) (c - 97)) 2 (r 2 + 1)) := by
      have := (hr.up (3 + r 2).toNat (c - 97)).up 2 (r 2 + 1)
      rw [show (((3 + r 2).toNat : Nat) : Int) = 3 + r 2 by omega] at this
      exact this
    refine ⟨R1, h1, h2, ?_, fun q => by omega, fun _ => ?_, fun q => by omega, fun _ => ⟨?_, ?_, ?_, ?_, fun j j1 j2 => ?_⟩, fun q => by omega, fun q => by omega, fun q => by omega, fun q => by omega, fun q => by omega⟩
    · rw [g2]
      unfold qst
      rw [if_neg (by decide), if_pos rfl, if_neg (by omega)]
      rfl
    · rw [gn 0 (by omega) (by omega), gn 9 (by omega) (by omega)]
      exact h4
    · rw [gn 1 (by omega) (by omega)]
      exact a1
    · rw [gn 1 (by omega) (by omega)]
      exact a2
    · rw [g2]
      rfl
    · rw [g2]
      omega
    · rw [g2] at j2
      show upd (u.2 4) (r 2).toNat (I (c - 97)) j.toNat = _ ∧ _
      rw [gn 1 (by omega) (by omega)]
      by_cases q5 : j = r 2
      · subst q5
        rw [ud_eq, fup_ne (by omega), fup_eq]
        exact ⟨rfl, hx.1, hx.2, q.2.1⟩
      · rw [ud_ne (by omega), gn (3 + j) (by omega) (by omega)]
        exact a5 j j1 (by omega)
  · rw [em.2 q, bp_some] at M
    rw [ex.2 q, bp_some, if_neg (by decide)] at X
    simp only [nm] at X
    rw [a3] at X
    by_cases q2 : r 2 = 0
    · rw [if_neg (fun g => g.1 q2)] at M
      rw [if_pos (show I (r 2) ≤ 0 by rw [q2]; decide)] at X
      exact ⟨0, _, _, X, M, FX.refl u, (FM.refl v).si, .inl ⟨rfl, rfl⟩⟩
    · rw [if_neg (show ¬ I (r 2) ≤ 0 by rw [show (0 : Int32) = I 0 from rfl, I_le (by omega) (by omega) (by omega) (by omega)]; omega), show (44 : Int32) = I 44 from rfl, x_mark NF h1 (by omega) (by omega) (by omega) (by omega)] at X
      by_cases q4 : c = 44
      · rw [if_pos q4, bp_some, if_neg (by decide)] at X
        rw [if_pos ⟨q2, q4⟩] at M
        refine ⟨1, _, _, X, M, (FX.refl u).si (by omega) (by omega), (FM.refl v).si, .inr ⟨rfl, 4, r, hr, rfl, by omega, rfl, fun q => by omega, fun _ => h4, fun q => by omega, fun _ => ⟨a1, a2, a3, a4, a5⟩, fun q => by omega, fun q => by omega, fun q => by omega, fun q => by omega, fun q => by omega⟩⟩
      · rw [if_neg q4, bp_some, if_pos rfl] at X
        rw [if_neg (fun g => q4 g.2)] at M
        exact ⟨0, _, _, X, M, FX.refl u, (FM.refl v).si, .inl ⟨rfl, rfl⟩⟩
theorem step_all {u : USt} {v : MSt} {s : Int} {r : Int → Int} {c : Int} (h : ReadR u v s r) (c1 : 1 ≤ c) (c2 : c ≤ 126) : Step2 NF u v c := by
  have hs := h.2.2.1
  rcases (show s = 0 ∨ s = 1 ∨ s = 3 ∨ s = 11 ∨ (s = 2 ∨ s = 5 ∨ s = 7 ∨ s = 9) ∨ (s = 4 ∨ s = 6 ∨ s = 8 ∨ s = 10) by omega) with q | q | q | q | q | q
  · subst q
    exact st_0 NF h c1 c2
  · subst q
    exact st_1 NF h c1 c2
  · subst q
    exact st_3 h c1 c2
  · subst q
    exact st_11 NF h
  · exact st_mark NF h c1 c2 q
  · exact st_dig NF h c1 c2 q
