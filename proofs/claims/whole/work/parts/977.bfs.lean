/-- the reference's flow -/
def FR (v : MSt) (F : Int → Int → Int → Int) : Prop := (∀ k t, 0 ≤ k → k < 10 → 0 ≤ t → t < 61 → v.2.1 14 (10 * t + k).toNat = I (F 0 k t) ∧ v.2.1 15 (10 * t + k).toNat = I (F 1 k t)) ∧ ∀ i t, 0 ≤ i → i < 8 → 0 ≤ t → t < 61 → v.2.1 13 (8 * t + i).toNat = I (F 2 i t)
def bc (b : Int) : Int := if b < 100 then 2 else if b < 200 then 0 else if b < 300 then 1 else if b < 400 then 0 else 1
def bk (b y : Int) : Int := if b < 100 then y % 8 else b % 100
def bq (b y x : Int) : Int := if b = 0 then y / 8 else if b = 1 then x / 8 else if b < 300 then y / 8 else x / 8
def bx (b : Int) : Int := if b = 0 then 1 else if b = 1 then -1 else if b < 300 then 1 else -1
def SB (sp p n : Int) (P : Int → Int) (M : Int → Int → Int) (F : Int → Int → Int → Int) (y x b : Int) : Prop := (b = 0 ∨ b = 1 ∨ (100 ≤ b ∧ b < 110) ∨ (200 ≤ b ∧ b < 210) ∨ (300 ≤ b ∧ b < 310) ∨ (400 ≤ b ∧ b < 410)) ∧ RS sp p n P M F (y % 8) (y / 8) (x % 8) (x / 8) (bc b) (bk b y) (bq b y x) (bx b)
def CT (C : Int → Int) (q : Int) : Prop := q = sN 488 (fun z => if C z = -1 then 0 else 1)
theorem CT.le {C : Int → Int} {q x : Int} (h : CT C q) (x1 : 0 ≤ x) (x2 : x < 488) (hx : C x = -1) : q ≤ 487 := by
  have a : sN 488 (fun z => if C z = -1 then 0 else 1) ≤ sN 488 (fup (fun _ => 1) x 0) := by
    apply sN_le
    intro i i1 i2
    by_cases e : i = x
    · subst e
      rw [fup_eq, if_pos hx]
      exact Int.le_refl _
    · rw [fup_ne e]
      split
      · decide
      · exact Int.le_refl _
  rw [sN_up x1 x2, sN_c] at a
  change _ ≤ ((488 : Nat) : Int) * 1 + (0 - 1) at a
  have e : ((488 : Nat) : Int) * 1 + (0 - 1) = 487 := by decide
  rw [e] at a
  unfold CT at h
  rw [h]
  exact a
theorem CT.le2 {C : Int → Int} {q : Int} (h : CT C q) : q ≤ 488 := by
  have a : sN 488 (fun z => if C z = -1 then 0 else 1) ≤ sN 488 (fun _ => 1) := by
    apply sN_le
    intro i i1 i2
    split
    · decide
    · exact Int.le_refl _
  rw [sN_c] at a
  have e : ((488 : Nat) : Int) * 1 = 488 := by decide
  rw [e] at a
  unfold CT at h
  rw [h]
  exact a
theorem CT.up {C : Int → Int} {q x y : Int} (h : CT C q) (x1 : 0 ≤ x) (x2 : x < 488) (hx : C x = -1) (hy : y ≠ -1) : CT (fup C x y) (q + 1) := by
  unfold CT at *
  have e : sN 488 (fun z => if fup C x y z = -1 then 0 else 1) = sN 488 (fup (fun z => if C z = -1 then 0 else 1) x 1) := by
    apply sN_congr
    intro i i1 i2
    by_cases e : i = x
    · subst e
      rw [fup_eq, fup_eq, if_neg hy]
    · rw [fup_ne e, fup_ne e]
  have e2 := sN_up (f := fun z => if C z = -1 then 0 else 1) (d := 488) (k := x) (x := 1) x1 x2
  rw [e, e2, ← h, if_pos hx]
  rfl
theorem CT.zero : CT (fun _ => -1) 0 := by
  unfold CT
  have : sN 488 (fun z => if (fun _ : Int => (-1 : Int)) z = -1 then 0 else 1) = sN 488 (fun _ => 0) := sN_congr 488 (fun i _ _ => if_pos rfl)
  rw [this, sN_c, Int.mul_zero]
abbrev Bq : Type := (Int → Int) × (Int → Int) × (Int → Int) × (Int → Int) × Int
/-- the reference's search: whence, by what, in which order -/
def BB (sp p n : Int) (P : Int → Int) (M : Int → Int → Int) (F : Int → Int → Int → Int) (src : Int) (v : MSt) (z : Bq) : Prop :=
  (v.1 19 = I z.2.2.2.2 ∧ 0 ≤ z.2.2.2.2 ∧ ∀ x, 0 ≤ x → x < 488 → v.2.1 16 x.toNat = I (z.1 x) ∧ v.2.1 17 x.toNat = I (z.2.1 x) ∧ v.2.1 18 x.toNat = I (z.2.2.1 x) ∧ -1 ≤ z.1 x ∧ z.1 x < 488) ∧
  (∀ j, 0 ≤ j → j < z.2.2.2.2 → 0 ≤ z.2.2.1 j ∧ z.2.2.1 j < 488 ∧ z.1 (z.2.2.1 j) ≠ -1 ∧ z.2.2.2.1 (z.2.2.1 j) = j) ∧
  (∀ x, 0 ≤ x → x < 488 → z.1 x ≠ -1 → 0 ≤ z.2.2.2.1 x ∧ z.2.2.2.1 x < z.2.2.2.2 ∧ z.2.2.1 (z.2.2.2.1 x) = x) ∧
  (∀ x, 0 ≤ x → x < 488 → z.1 x ≠ -1 → x = src ∨ (z.1 (z.1 x) ≠ -1 ∧ z.2.2.2.1 (z.1 x) < z.2.2.2.1 x ∧ SB sp p n P M F (z.1 x) x (z.2.1 x))) ∧ CT z.1 z.2.2.2.2
def VB (v v' : MSt) : Prop := (∀ a, a ≠ 19 → v'.1 a = v.1 a) ∧ ∀ a, a ≠ 16 → a ≠ 17 → a ≠ 18 → v'.2.1 a = v.2.1 a
theorem VB.refl (v : MSt) : VB v v := ⟨fun _ _ => rfl, fun _ _ _ _ => rfl⟩
theorem VB.trans {v v' v'' : MSt} (h : VB v v') (g : VB v' v'') : VB v v'' := ⟨fun a q => (g.1 a q).trans (h.1 a q), fun a q1 q2 q3 => (g.2 a q1 q2 q3).trans (h.2 a q1 q2 q3)⟩
theorem VB.km {v v' : MSt} (h : VB v v') : KM v v' := ⟨fun k q => h.1 k (by omega), fun a q => h.2 a (by omega) (by omega) (by omega)⟩
theorem VB.mst {v v' : MSt} {rw : Int → Int} {n fr wo sk se : Int} (h : VB v v') (hM : Mst v rw n fr wo sk se) : Mst v' rw n fr wo sk se := hM.keep h.km (h.1 9 (by omega))
theorem VB.fr {v v' : MSt} {F : Int → Int → Int → Int} (h : VB v v') (hR : FR v F) : FR v' F := by
  unfold FR
  rw [h.2 13 (by omega) (by omega) (by omega), h.2 14 (by omega) (by omega) (by omega), h.2 15 (by omega) (by omega) (by omega)]
  exact hR
def Ex (z z' : Bq) : Prop := (∀ x, z.1 x ≠ -1 → z'.1 x ≠ -1) ∧ z.2.2.2.2 ≤ z'.2.2.2.2 ∧ ∀ j, 0 ≤ j → j < z.2.2.2.2 → z'.2.2.1 j = z.2.2.1 j
theorem Ex.refl (z : Bq) : Ex z z := ⟨fun _ h => h, Int.le_refl _, fun _ _ _ => rfl⟩
theorem Ex.trans {z z' z'' : Bq} (h : Ex z z') (g : Ex z' z'') : Ex z z'' := ⟨fun x q => g.1 x (h.1 x q), Int.le_trans h.2.1 g.2.1, fun j j1 j2 => (g.2.2 j j1 (Int.lt_of_lt_of_le j2 h.2.1)).trans (h.2.2 j j1 j2)⟩
theorem comeTo_new (N : Nat) {v : MSt} {x y b q : Int} (x1 : 0 ≤ x) (x2 : x < 488) (h16 : v.2.1 16 x.toNat = I (-1)) (h19 : v.1 19 = I q) (q1 : 0 ≤ q) (q2 : q ≤ 487) : mM_comeTo N v (I x) (I y) (I b) = some (siM (saM (saM (saM v 16 x.toNat (I y)) 17 x.toNat (I b)) 18 q.toNat (I x)) 19 (I (q + 1))) := by
  unfold mM_comeTo mM_comeTo_44
  have e1 : (saM (saM v 16 x.toNat (I y)) 17 x.toNat (I b)).1 19 = I q := h19
  have e2 : (saM (saM (saM v 16 x.toNat (I y)) 17 x.toNat (I b)) 18 q.toNat (I x)).1 19 = I q := h19
  rw [rd_I x1 (by omega) (by omega), h16, if_neg (show ¬ ¬ I (-1) = (-1 : Int32) from not_not_intro rfl), wr_I x1 (by omega) (by omega), nm_eq, wr_I x1 (by omega) (by omega), nm_eq, nm_eq, e1, wr_I q1 (by omega) (by omega), nm_eq, nm_eq, e2, nm_eq, show I q + 1 = I (q + 1) from I_add q 1]
theorem saM_ne {v : MSt} {k j a : Nat} {x : Int32} (h : a ≠ k) : (saM v k j x).2.1 a = v.2.1 a := vu_ne h
theorem BB_new {sp p n src : Int} {P : Int → Int} {M : Int → Int → Int} {F : Int → Int → Int → Int} {v : MSt} {z : Bq} {x y b : Int} (h : BB sp p n P M F src v z) (x1 : 0 ≤ x) (x2 : x < 488) (hx : z.1 x = -1) (y1 : 0 ≤ y) (y2 : y < 488) (hy : x = src ∨ (z.1 y ≠ -1 ∧ SB sp p n P M F y x b)) : BB sp p n P M F src (siM (saM (saM (saM v 16 x.toNat (I y)) 17 x.toNat (I b)) 18 z.2.2.2.2.toNat (I x)) 19 (I (z.2.2.2.2 + 1))) (fup z.1 x y, fup z.2.1 x b, fup z.2.2.1 z.2.2.2.2 x, fup z.2.2.2.1 x z.2.2.2.2, z.2.2.2.2 + 1) := by
  obtain ⟨⟨h1, h2, h3⟩, h4, h5, h6, h7⟩ := h
  have hq := h7.le x1 x2 hx
  refine ⟨⟨siM_g _ _ _, ?_, fun w w1 w2 => ?_⟩, fun j j1 j2 => ?_, fun w w1 w2 hw => ?_, fun w w1 w2 hw => ?_, h7.up x1 x2 hx (by omega)⟩
  · show 0 ≤ z.2.2.2.2 + 1
    omega
  · obtain ⟨a1, a2, a3, a4, a5⟩ := h3 w w1 w2
    refine ⟨?_, ?_, ?_, ?_⟩
    · show (saM (saM (saM v 16 x.toNat (I y)) 17 x.toNat (I b)) 18 z.2.2.2.2.toNat (I x)).2.1 16 w.toNat = I (fup z.1 x y w)
      rw [saM_ne (by omega), saM_ne (by omega), saM_g]
      by_cases e : w = x
      · subst e
        rw [ud_eq, fup_eq]
      · rw [ud_ne (by omega), fup_ne e]
        exact a1
    · show (saM (saM (saM v 16 x.toNat (I y)) 17 x.toNat (I b)) 18 z.2.2.2.2.toNat (I x)).2.1 17 w.toNat = I (fup z.2.1 x b w)
      rw [saM_ne (by omega), saM_g, saM_ne (by omega)]
      by_cases e : w = x
      · subst e
        rw [ud_eq, fup_eq]
      · rw [ud_ne (by omega), fup_ne e]
        exact a2
    · show (saM (saM (saM v 16 x.toNat (I y)) 17 x.toNat (I b)) 18 z.2.2.2.2.toNat (I x)).2.1 18 w.toNat = I (fup z.2.2.1 z.2.2.2.2 x w)
      rw [saM_g, saM_ne (by omega), saM_ne (by omega)]
      by_cases e : w = z.2.2.2.2
      · rw [e, ud_eq, fup_eq]
      · rw [ud_ne (by omega), fup_ne e]
        exact a3
    · show -1 ≤ fup z.1 x y w ∧ fup z.1 x y w < 488
      by_cases e : w = x
      · subst e
        rw [fup_eq]
        omega
      · rw [fup_ne e]
        exact ⟨a4, a5⟩
  · change j < z.2.2.2.2 + 1 at j2
    show 0 ≤ fup z.2.2.1 z.2.2.2.2 x j ∧ fup z.2.2.1 z.2.2.2.2 x j < 488 ∧ fup z.1 x y (fup z.2.2.1 z.2.2.2.2 x j) ≠ -1 ∧ fup z.2.2.2.1 x z.2.2.2.2 (fup z.2.2.1 z.2.2.2.2 x j) = j
    by_cases e : j = z.2.2.2.2
    · rw [e, fup_eq, fup_eq, fup_eq]
      exact ⟨x1, x2, by omega, rfl⟩
    · rw [fup_ne e]
      obtain ⟨a1, a2, a3, a4⟩ := h4 j j1 (by omega)
      have hne : z.2.2.1 j ≠ x := by
        intro g
        rw [g] at a3
        exact a3 hx
      rw [fup_ne hne, fup_ne hne]
      exact ⟨a1, a2, a3, a4⟩
  · change fup z.1 x y w ≠ -1 at hw
    show 0 ≤ fup z.2.2.2.1 x z.2.2.2.2 w ∧ fup z.2.2.2.1 x z.2.2.2.2 w < z.2.2.2.2 + 1 ∧ fup z.2.2.1 z.2.2.2.2 x (fup z.2.2.2.1 x z.2.2.2.2 w) = w
    by_cases e : w = x
    · rw [e, fup_eq, fup_eq]
      exact ⟨h2, by omega, rfl⟩
    · rw [fup_ne e] at hw ⊢
      obtain ⟨a1, a2, a3⟩ := h5 w w1 w2 hw
      rw [fup_ne (by omega)]
      exact ⟨a1, by omega, a3⟩
  · change fup z.1 x y w ≠ -1 at hw
    show w = src ∨ (fup z.1 x y (fup z.1 x y w) ≠ -1 ∧ fup z.2.2.2.1 x z.2.2.2.2 (fup z.1 x y w) < fup z.2.2.2.1 x z.2.2.2.2 w ∧ SB sp p n P M F (fup z.1 x y w) w (fup z.2.1 x b w))
    by_cases e : w = x
    · rw [e]
      rcases hy with hy | ⟨hy, hs⟩
      · exact .inl hy
      · right
        have hne : y ≠ x := by
          intro g
          rw [g] at hy
          exact hy hx
        rw [fup_eq, fup_eq, fup_eq, fup_ne hne, fup_ne hne]
        exact ⟨hy, (h5 y y1 y2 hy).2.1, hs⟩
    · rw [fup_ne e] at hw ⊢
      rcases h6 w w1 w2 hw with q | ⟨q1, q2, q3⟩
      · exact .inl q
      · right
        have hne : z.1 w ≠ x := by
          intro g
          rw [g] at q1
          exact q1 hx
        rw [fup_ne hne, fup_ne hne, fup_ne e, fup_ne e]
        exact ⟨q1, q2, q3⟩
theorem VB_new (v : MSt) (x q : Nat) (a b c d : Int32) : VB v (siM (saM (saM (saM v 16 x a) 17 x b) 18 q c) 19 d) := ⟨fun k hk => siM_ne hk, fun k h1 h2 h3 => (saM_ne h3).trans ((saM_ne h2).trans (saM_ne h1))⟩
theorem m_comeTo (N : Nat) {sp p n src : Int} {P : Int → Int} {M : Int → Int → Int} {F : Int → Int → Int → Int} {v : MSt} {z : Bq} {x y b : Int} (h : BB sp p n P M F src v z) (x1 : 0 ≤ x) (x2 : x < 488) (y1 : 0 ≤ y) (y2 : y < 488) (hy : z.1 y ≠ -1) (hs : SB sp p n P M F y x b) : ∃ (v' : MSt) (z' : Bq), mM_comeTo N v (I x) (I y) (I b) = some v' ∧ BB sp p n P M F src v' z' ∧ VB v v' ∧ Ex z z' ∧ z'.1 x ≠ -1 := by
  have h16 := (h.1.2.2 x x1 x2)
  by_cases c : z.1 x = -1
  · have hq := h.2.2.2.2.le x1 x2 c
    have e := comeTo_new N (y := y) (b := b) x1 x2 (by rw [h16.1, c]) h.1.1 h.1.2.1 hq
    refine ⟨_, _, e, BB_new h x1 x2 c y1 y2 (.inr ⟨hy, hs⟩), VB_new _ _ _ _ _ _ _, ⟨fun w hw => ?_, ?_, fun j j1 j2 => ?_⟩, ?_⟩
    · show fup z.1 x y w ≠ -1
      by_cases e : w = x
      · rw [e, fup_eq]
        omega
      · rw [fup_ne e]
        exact hw
    · show z.2.2.2.2 ≤ z.2.2.2.2 + 1
      omega
    · show fup z.2.2.1 z.2.2.2.2 x j = z.2.2.1 j
      exact fup_ne (by omega)
    · show fup z.1 x y x ≠ -1
      rw [fup_eq]
      omega
  · refine ⟨v, z, ?_, h, VB.refl v, Ex.refl z, c⟩
    unfold mM_comeTo mM_comeTo_44
    rw [rd_I x1 (by omega) (by omega), h16.1, if_pos (by rw [show (-1 : Int32) = I (-1) from rfl, I_eq (by omega) (by omega) (by omega) (by omega)]; exact c)]
