theorem RwA.ex {sp p y k : Int} {P : Int → Int} {M : Int → Int → Int} {F : Int → Int → Int → Int} {z z' : Bq} (h : RwA sp p P M F y k z.1) (e : Ex z z') : RwA sp p P M F y k z'.1 := fun a b => ⟨fun c d => e.1 _ ((h a b).1 c d), fun c d => e.1 _ ((h a b).2 c d)⟩
theorem RwB.ex {p y k : Int} {P : Int → Int} {M : Int → Int → Int} {F : Int → Int → Int → Int} {z z' : Bq} (h : RwB p P M F y k z.1) (e : Ex z z') : RwB p P M F y k z'.1 := fun a b => ⟨fun c d => e.1 _ ((h a b).1 c d), fun c d => e.1 _ ((h a b).2 c d)⟩
theorem lk_rows (N : Nat) {n fr se src y m p w sp B : Int} {rw : Int → Int} {F : Int → Int → Int → Int} (hF : FV sp p n (Mr (Lw (-1) (-1) se fr rw p w) m) B F) (hB : B ≤ 1000000) (sp1 : 0 ≤ sp) (sp2 : sp ≤ 60) (p1 : 1 ≤ p) (p2 : p ≤ 9) (w1 : 1 ≤ w) (w2 : w ≤ 9) (m1 : 0 ≤ m) (m2 : m ≤ 999) (y1 : 0 ≤ y) (y2 : y < 488) : ∀ (d f : Nat) (k : Int) (v : MSt) (z : Bq), d < f → (d : Int) = n - k → 0 ≤ k → Mst v rw n fr (-1) (-1) se → BB sp p n (Pw rw) (Mr (Lw (-1) (-1) se fr rw p w) m) F src v z → FR v F → z.1 y ≠ -1 → ∃ (v' : MSt) (z' : Bq), mM_lookOn_h58 N f v (I y) (I m) (I sp) (I p) (I w) (I (y / 8)) (I (y % 8)) (I k) = some v' ∧ BB sp p n (Pw rw) (Mr (Lw (-1) (-1) se fr rw p w) m) F src v' z' ∧ VB v v' ∧ Ex z z' ∧ ∀ j, k ≤ j → j < n → RwA sp p (Pw rw) (Mr (Lw (-1) (-1) se fr rw p w) m) F y j z'.1 ∧ RwB p (Pw rw) (Mr (Lw (-1) (-1) se fr rw p w) m) F y j z'.1 := by
  intro d
  induction d with
  | zero =>
    intro f k v z hf hd hk hM h hR hy
    obtain ⟨f, rfl⟩ : ∃ g, f = g + 1 := ⟨f - 1, by omega⟩
    have n2 := hM.2.2.2.2.2.1
    refine ⟨v, z, ?_, h, VB.refl v, Ex.refl z, fun j j1 j2 => by omega⟩
    show mM_lookOn_58 N _ _ _ _ _ _ _ _ _ _ = _
    unfold mM_lookOn_58
    rw [hM.2.2.2.1, if_pos (by rw [I_le (by omega) (by omega) (by omega) (by omega)]; omega)]
  | succ d ih =>
    intro f k v z hf hd hk hM h hR hy
    obtain ⟨f, rfl⟩ : ∃ g, f = g + 1 := ⟨f - 1, by omega⟩
    obtain ⟨v1, z1, a1, a2, a3, a4, a5⟩ := lk58 N (mM_lookOn_h58 N f) hM h hR hF hB sp1 sp2 p1 p2 w1 w2 m1 m2 hk (by omega) y1 y2 hy
    obtain ⟨v2, z2, b1, b2, b3, b4, b5⟩ := lk208 N (mM_lookOn_h58 N f) (a3.mst hM) a2 (a3.fr hR) hF p1 p2 w1 w2 m1 m2 hk (by omega) y1 y2 (a4.1 y hy)
    obtain ⟨v3, z3, c1, c2, c3, c4, c5⟩ := ih f (k + 1) v2 z2 (by omega) (by omega) (by omega) ((a3.trans b3).mst hM) b2 ((a3.trans b3).fr hR) (b4.1 y (a4.1 y hy))
    refine ⟨v3, z3, ?_, c2, (a3.trans b3).trans c3, (a4.trans b4).trans c4, fun j j1 j2 => ?_⟩
    · show mM_lookOn_58 N _ _ _ _ _ _ _ _ _ _ = _
      rw [a1, b1, c1]
    · by_cases q : j = k
      · subst q
        exact ⟨(a5.ex b4).ex c4, b5.ex c4⟩
      · exact c5 j (by omega) j2
/-- all steps from a knot lead to what is seen -/
def Opn (sp p n : Int) (P : Int → Int) (M : Int → Int → Int) (F : Int → Int → Int → Int) (y : Int) (C : Int → Int) : Prop := ∀ j s c k q x, RS sp p n P M F (y % 8) (y / 8) j s c k q x → C (8 * s + j) ≠ -1
theorem m_lookOn {n fr se src y m p w sp B : Int} {rw : Int → Int} {F : Int → Int → Int → Int} {v : MSt} {z : Bq} (hM : Mst v rw n fr (-1) (-1) se) (h : BB sp p n (Pw rw) (Mr (Lw (-1) (-1) se fr rw p w) m) F src v z) (hR : FR v F) (hF : FV sp p n (Mr (Lw (-1) (-1) se fr rw p w) m) B F) (hB : B ≤ 1000000) (sp1 : 0 ≤ sp) (sp2 : sp ≤ 60) (p1 : 1 ≤ p) (p2 : p ≤ 9) (w1 : 1 ≤ w) (w2 : w ≤ 9) (m1 : 0 ≤ m) (m2 : m ≤ 999) (y1 : 0 ≤ y) (y2 : y < 488) (hy : z.1 y ≠ -1) : ∃ (v' : MSt) (z' : Bq), mM_lookOn NF v (I y) (I m) (I sp) (I p) (I w) = some v' ∧ BB sp p n (Pw rw) (Mr (Lw (-1) (-1) se fr rw p w) m) F src v' z' ∧ VB v v' ∧ Ex z z' ∧ Opn sp p n (Pw rw) (Mr (Lw (-1) (-1) se fr rw p w) m) F y z'.1 := by
  have hb := NF_big
  have n1 := hM.2.2.2.2.1
  have n2 := hM.2.2.2.2.2.1
  have hd8 : 0 ≤ y / 8 ∧ y / 8 < 61 ∧ 0 ≤ y % 8 ∧ y % 8 < 8 := by omega
  have S1 : ∃ (v1 : MSt) (z1 : Bq), mM_lookOn NF v (I y) (I m) (I sp) (I p) (I w) = mM_lookOn_28 NF v1 (I y) (I m) (I sp) (I p) (I w) (I (y / 8)) (I (y % 8)) ∧ BB sp p n (Pw rw) (Mr (Lw (-1) (-1) se fr rw p w) m) F src v1 z1 ∧ VB v v1 ∧ Ex z z1 ∧ (y / 8 < sp → z1.1 (y + 8) ≠ -1) := by
    unfold mM_lookOn
    rw [nm_eq, nm_eq, show (8 : Int32) = I 8 from rfl, I_rem y1 (by omega) (by omega) (by omega), I_div y1 (by omega) (by omega) (by omega)]
    by_cases c : y / 8 < sp
    · obtain ⟨v1, z1, e1, e2, e3, e4, e5⟩ := m_comeTo NF h (x := y + 8) (y := y) (b := 0) (by omega) (by omega) y1 y2 hy (SB_0 y1 c)
      rw [if_neg (by rw [I_le (by omega) (by omega) (by omega) (by omega)]; omega), I_add, show (0 : Int32) = I 0 from rfl, e1, Option.bind_some]
      exact ⟨v1, z1, rfl, e2, e3, e4, fun _ => e5⟩
    · rw [if_pos (by rw [I_le (by omega) (by omega) (by omega) (by omega)]; omega)]
      exact ⟨v, z, rfl, h, VB.refl v, Ex.refl z, fun g => absurd g c⟩
  obtain ⟨v1, z1, a1, a2, a3, a4, a5⟩ := S1
  have S2 : ∃ (v2 : MSt) (z2 : Bq), mM_lookOn_28 NF v1 (I y) (I m) (I sp) (I p) (I w) (I (y / 8)) (I (y % 8)) = mM_lookOn_55 NF v2 (I y) (I m) (I sp) (I p) (I w) (I (y / 8)) (I (y % 8)) ∧ BB sp p n (Pw rw) (Mr (Lw (-1) (-1) se fr rw p w) m) F src v2 z2 ∧ VB v1 v2 ∧ Ex z1 z2 ∧ (0 < y / 8 → 0 < F 2 (y % 8) (y / 8 - 1) → z2.1 (y - 8) ≠ -1) := by
    unfold mM_lookOn_28
    by_cases c : 0 < y / 8
    · have hw := (a3.fr hR).2 (y % 8) (y / 8 - 1) (by omega) (by omega) (by omega) (by omega)
      rw [show 8 * (y / 8 - 1) + y % 8 = y - 8 by omega] at hw
      have f2 := hF 2 (y % 8) (y / 8 - 1) (.inr (.inr rfl))
      rw [show (0 : Int32) = I 0 from rfl, if_neg (by rw [I_le (by omega) (by omega) (by omega) (by omega)]; omega), show (8 : Int32) = I 8 from rfl, I_sub, rd_I (by omega) (by omega) (by omega), hw]
      by_cases c2 : 0 < F 2 (y % 8) (y / 8 - 1)
      · obtain ⟨v2, z2, e1, e2, e3, e4, e5⟩ := m_comeTo NF a2 (x := y - 8) (y := y) (b := 1) (by omega) (by omega) y1 y2 (a4.1 y hy) (SB_1 hF (by omega) c2)
        rw [if_neg (by rw [I_le (by omega) (by omega) (by omega) (by omega)]; omega), show (1 : Int32) = I 1 from rfl, e1, Option.bind_some]
        exact ⟨v2, z2, rfl, e2, e3, e4, fun _ _ => e5⟩
      · rw [if_pos (by rw [I_le (by omega) (by omega) (by omega) (by omega)]; omega)]
        exact ⟨v1, z1, rfl, a2, VB.refl v1, Ex.refl z1, fun _ g => absurd g c2⟩
    · rw [if_pos (by rw [show (0 : Int32) = I 0 from rfl, I_le (by omega) (by omega) (by omega) (by omega)]; omega)]
      exact ⟨v1, z1, rfl, a2, VB.refl v1, Ex.refl z1, fun g => absurd g c⟩
  obtain ⟨v2, z2, b1, b2, b3, b4, b5⟩ := S2
  have hV := a3.trans b3
  have hE := a4.trans b4
  obtain ⟨v3, z3, c1, c2, c3, c4, c5⟩ := lk_rows NF hF hB sp1 sp2 p1 p2 w1 w2 m1 m2 y1 y2 n.toNat NF 0 v2 z2 (by omega) (by omega) (by omega) (hV.mst hM) b2 (hV.fr hR) (hE.1 y hy)
  refine ⟨v3, z3, ?_, c2, hV.trans c3, hE.trans c4, fun j s c k q x hr => ?_⟩
  · rw [a1, b1]
    unfold mM_lookOn_55
    exact c1
  · obtain ⟨hv, hr⟩ := hr
    rcases (show c = 0 ∨ c = 1 ∨ c = 2 by omega) with rfl | rfl | rfl
    · rcases hr with ⟨-, e1, e2, e3, e4, e5⟩ | ⟨-, e1, e2, e3, e4, e5⟩
      · have hA := (c5 k (by omega) (by omega)).1 (by omega) (by rw [e2]; omega)
        rw [e3, e4, ← e2]
        exact hA.1 e1 (by rw [e2]; exact e5.resolve_left (by omega))
      · have e2' : y / 8 = q + p := e2
        have hq : y / 8 - p = q := by omega
        have hA := (c5 k (by omega) (by omega)).2 (by omega) (by rw [hq]; omega)
        have f0 := hF.b01 (.inl rfl) k q
        rw [e3, e4]
        have := hA.1 (by rw [hq]; exact e1) (by rw [hq]; omega)
        rw [hq] at this
        exact this
    · rcases hr with ⟨-, e1, e2, e3, e4, e5⟩ | ⟨-, e1, e2, e3, e4, e5⟩
      · have hA := (c5 k (by omega) (by omega)).1 (by omega) (by rw [e2]; omega)
        rw [e3, e4, ← e2]
        exact hA.2 (by rw [e2]; exact e1) (by rw [e2]; exact e5.resolve_left (by omega))
      · have e2' : y / 8 = q + p := e2
        have hq : y / 8 - p = q := by omega
        have hA := (c5 k (by omega) (by omega)).2 (by omega) (by rw [hq]; omega)
        have f0 := hF.b01 (.inr rfl) k q
        rw [e3, e4]
        have := hA.2 e1 (by rw [hq]; omega)
        rw [hq] at this
        exact this
    · rcases hr with ⟨-, e1, e2, e3, e4, e5⟩ | ⟨-, e1, e2, e3, e4, e5⟩
      · have e1' : y % 8 = k := e1
        have e3' : j = k := e3
        have e4' : s = q + 1 := e4
        rw [show 8 * s + j = y + 8 by omega]
        exact (b4.trans c4).1 _ (a5 (by omega))
      · have e1' : y % 8 = k := e1
        have e2' : y / 8 = q + 1 := e2
        have e3' : j = k := e3
        rw [show 8 * s + j = y - 8 by omega]
        exact c4.1 _ (b5 (by omega) (by rw [e1', show y / 8 - 1 = q by omega]; omega))
