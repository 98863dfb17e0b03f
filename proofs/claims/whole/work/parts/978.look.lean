theorem m_mg (N : Nat) {v : MSt} {rw : Int → Int} {n fr se m p w k t : Int} (hM : Mst v rw n fr (-1) (-1) se) (k1 : 0 ≤ k) (k2 : k < n) (m1 : 0 ≤ m + t) (m2 : m + t ≤ 2000) (p1 : 1 ≤ p) (p2 : p ≤ 9) (w1 : 1 ≤ w) (w2 : w ≤ 9) : (Mr (Lw (-1) (-1) se fr rw p w) m k t = -1 → mM_mayGo N v (I k) (I (m + t)) (I p) (I w) = some 0) ∧ (Mr (Lw (-1) (-1) se fr rw p w) m k t ≠ -1 → mM_mayGo N v (I k) (I (m + t)) (I p) (I w) = some 1 ∧ mM_joinsNow N v (I k) (I (m + t)) = some (I (Mr (Lw (-1) (-1) se fr rw p w) m k t))) := by
  haveI : Decidable (mg (-1) (-1) se fr (rowk rw k) k (m + t) p w) := Classical.propDecidable _
  rw [mM_mayGo_I N hM k1 k2 m1 (by omega) p1 p2 w1 w2, mM_joinsNow_I N hM k1 k2 m1 (by omega)]
  by_cases q : mg (-1) (-1) se fr (rowk rw k) k (m + t) p w
  · have eL : Mr (Lw (-1) (-1) se fr rw p w) m k t = jnW (-1) (-1) se fr (rowk rw k) k (m + t) := if_pos q
    have hne : Mr (Lw (-1) (-1) se fr rw p w) m k t ≠ -1 := by
      intro h
      have q2 := q.2
      unfold lsW at q2
      rw [← eL, if_pos h] at q2
      omega
    rw [if_pos q, ← eL]
    exact ⟨fun h => absurd h hne, fun _ => ⟨rfl, rfl⟩⟩
  · have eL : Mr (Lw (-1) (-1) se fr rw p w) m k t = -1 := if_neg q
    rw [if_neg q]
    exact ⟨fun _ => rfl, fun h => absurd eL h⟩
theorem SB_0 {sp p n y : Int} {P : Int → Int} {M : Int → Int → Int} {F : Int → Int → Int → Int} (y1 : 0 ≤ y) (ht : y / 8 < sp) : SB sp p n P M F y (y + 8) 0 := by
  refine ⟨.inl rfl, ?_⟩
  show RS sp p n P M F (y % 8) (y / 8) ((y + 8) % 8) ((y + 8) / 8) 2 (y % 8) (y / 8) 1
  exact ⟨.inl ⟨rfl, by omega, by omega, by omega, ht⟩, .inl ⟨rfl, rfl, rfl, (show (y + 8) % 8 = y % 8 by omega), (show (y + 8) / 8 = y / 8 + 1 by omega), .inl rfl⟩⟩
theorem SB_1 {sp p n B y : Int} {P : Int → Int} {M : Int → Int → Int} {F : Int → Int → Int → Int} (hF : FV sp p n M B F) (y1 : 8 ≤ y) (hw : 0 < F 2 (y % 8) (y / 8 - 1)) : SB sp p n P M F y (y - 8) 1 := by
  refine ⟨.inr (.inl rfl), ?_⟩
  show RS sp p n P M F (y % 8) (y / 8) ((y - 8) % 8) ((y - 8) / 8) 2 (y % 8) ((y - 8) / 8) (-1)
  have e : (y - 8) / 8 = y / 8 - 1 := by omega
  rw [e]
  exact ⟨(hF 2 _ _ (.inr (.inr rfl))).2.2.2 (by omega), .inr ⟨rfl, rfl, (show y / 8 = y / 8 - 1 + 1 by omega), (show (y - 8) % 8 = y % 8 by omega), rfl, hw⟩⟩
theorem b_dm {a t : Int} (a1 : 0 ≤ a) (a2 : a < 8) : (8 * t + a) % 8 = a ∧ (8 * t + a) / 8 = t := by
  omega
theorem SB_A {sp p n y k : Int} {P : Int → Int} {M : Int → Int → Int} {F : Int → Int → Int → Int} (hnet : Net n P M) (n2 : n ≤ 10) (k1 : 0 ≤ k) (k2 : k < n) (y1 : 0 ≤ y) (ht : y / 8 + p ≤ sp) (hM : M k (y / 8) ≠ -1) : (y % 8 = P k → F 0 k (y / 8) = 0 → SB sp p n P M F y (8 * (y / 8 + p) + M k (y / 8)) (100 + k)) ∧ (y % 8 = M k (y / 8) → F 1 k (y / 8) = 0 → SB sp p n P M F y (8 * (y / 8 + p) + P k) (200 + k)) := by
  have hn := hnet k k1 k2
  have hl := hn.2 (y / 8) (by omega)
  constructor
  · intro hi hf
    refine ⟨.inr (.inr (.inl (by omega))), ?_⟩
    have e1 : bc (100 + k) = 0 := by
      unfold bc
      rw [if_neg (by omega), if_pos (by omega)]
    have e2 : bk (100 + k) y = k := by
      unfold bk
      rw [if_neg (by omega)]
      omega
    have e3 : bq (100 + k) y (8 * (y / 8 + p) + M k (y / 8)) = y / 8 := by
      unfold bq
      rw [if_neg (by omega), if_neg (by omega), if_pos (by omega)]
    have e4 : bx (100 + k) = 1 := by
      unfold bx
      rw [if_neg (by omega), if_neg (by omega), if_pos (by omega)]
    rw [e1, e2, e3, e4, (b_dm (a := M k (y / 8)) (by omega) (by omega)).1, (b_dm (a := M k (y / 8)) (by omega) (by omega)).2]
    exact ⟨.inr ⟨.inl rfl, k1, k2, by omega, ht, hM⟩, .inl ⟨rfl, hi, rfl, rfl, rfl, .inr hf⟩⟩
  · intro hi hf
    refine ⟨.inr (.inr (.inr (.inl (by omega)))), ?_⟩
    have e1 : bc (200 + k) = 1 := by
      unfold bc
      rw [if_neg (by omega), if_neg (by omega), if_pos (by omega)]
    have e2 : bk (200 + k) y = k := by
      unfold bk
      rw [if_neg (by omega)]
      omega
    have e3 : bq (200 + k) y (8 * (y / 8 + p) + P k) = y / 8 := by
      unfold bq
      rw [if_neg (by omega), if_neg (by omega), if_pos (by omega)]
    have e4 : bx (200 + k) = 1 := by
      unfold bx
      rw [if_neg (by omega), if_neg (by omega), if_pos (by omega)]
    rw [e1, e2, e3, e4, (b_dm (a := P k) (by omega) (by omega)).1, (b_dm (a := P k) (by omega) (by omega)).2]
    exact ⟨.inr ⟨.inr rfl, k1, k2, by omega, ht, hM⟩, .inl ⟨rfl, hi, rfl, rfl, rfl, .inr hf⟩⟩
theorem SB_B {sp p n B y k : Int} {P : Int → Int} {M : Int → Int → Int} {F : Int → Int → Int → Int} (hnet : Net n P M) (hF : FV sp p n M B F) (n2 : n ≤ 10) (k1 : 0 ≤ k) (k2 : k < n) (p1 : 1 ≤ p) (y1 : 0 ≤ y) (ht : p ≤ y / 8) (hM : M k (y / 8 - p) ≠ -1) : (y % 8 = M k (y / 8 - p) → F 0 k (y / 8 - p) = 1 → SB sp p n P M F y (8 * (y / 8 - p) + P k) (300 + k)) ∧ (y % 8 = P k → F 1 k (y / 8 - p) = 1 → SB sp p n P M F y (8 * (y / 8 - p) + M k (y / 8 - p)) (400 + k)) := by
  have hn := hnet k k1 k2
  have hl := hn.2 (y / 8 - p) (by omega)
  constructor
  · intro hi hf
    refine ⟨.inr (.inr (.inr (.inr (.inl (by omega))))), ?_⟩
    have e1 : bc (300 + k) = 0 := by
      unfold bc
      rw [if_neg (by omega), if_neg (by omega), if_neg (by omega), if_pos (by omega)]
    have e2 : bk (300 + k) y = k := by
      unfold bk
      rw [if_neg (by omega)]
      omega
    have e3 : bq (300 + k) y (8 * (y / 8 - p) + P k) = y / 8 - p := by
      unfold bq
      rw [if_neg (by omega), if_neg (by omega), if_neg (by omega)]
      exact (b_dm (a := P k) (by omega) (by omega)).2
    have e4 : bx (300 + k) = -1 := by
      unfold bx
      rw [if_neg (by omega), if_neg (by omega), if_neg (by omega)]
    rw [e1, e2, e3, e4, (b_dm (a := P k) (by omega) (by omega)).1, (b_dm (a := P k) (by omega) (by omega)).2]
    exact ⟨(hF 0 _ _ (.inl rfl)).2.2.2 (by omega), .inr ⟨rfl, hi, (show y / 8 = y / 8 - p + p by omega), rfl, rfl, by omega⟩⟩
  · intro hi hf
    refine ⟨.inr (.inr (.inr (.inr (.inr (by omega))))), ?_⟩
    have e1 : bc (400 + k) = 1 := by
      unfold bc
      rw [if_neg (by omega), if_neg (by omega), if_neg (by omega), if_neg (by omega)]
    have e2 : bk (400 + k) y = k := by
      unfold bk
      rw [if_neg (by omega)]
      omega
    have e3 : bq (400 + k) y (8 * (y / 8 - p) + M k (y / 8 - p)) = y / 8 - p := by
      unfold bq
      rw [if_neg (by omega), if_neg (by omega), if_neg (by omega)]
      exact (b_dm (a := M k (y / 8 - p)) (by omega) (by omega)).2
    have e4 : bx (400 + k) = -1 := by
      unfold bx
      rw [if_neg (by omega), if_neg (by omega), if_neg (by omega)]
    rw [e1, e2, e3, e4, (b_dm (a := M k (y / 8 - p)) (by omega) (by omega)).1, (b_dm (a := M k (y / 8 - p)) (by omega) (by omega)).2]
    exact ⟨(hF 1 _ _ (.inr (.inl rfl))).2.2.2 (by omega), .inr ⟨rfl, hi, (show y / 8 = y / 8 - p + p by omega), rfl, rfl, by omega⟩⟩
/-- what one row brings to light from a knot -/
def RwA (sp p : Int) (P : Int → Int) (M : Int → Int → Int) (F : Int → Int → Int → Int) (y k : Int) (C : Int → Int) : Prop := (y / 8 + p ≤ sp → M k (y / 8) ≠ -1 → (y % 8 = P k → F 0 k (y / 8) = 0 → C (8 * (y / 8 + p) + M k (y / 8)) ≠ -1) ∧ (y % 8 = M k (y / 8) → F 1 k (y / 8) = 0 → C (8 * (y / 8 + p) + P k) ≠ -1))
def RwB (p : Int) (P : Int → Int) (M : Int → Int → Int) (F : Int → Int → Int → Int) (y k : Int) (C : Int → Int) : Prop := (p ≤ y / 8 → M k (y / 8 - p) ≠ -1 → (y % 8 = M k (y / 8 - p) → F 0 k (y / 8 - p) = 1 → C (8 * (y / 8 - p) + P k) ≠ -1) ∧ (y % 8 = P k → F 1 k (y / 8 - p) = 1 → C (8 * (y / 8 - p) + M k (y / 8 - p)) ≠ -1))
theorem lk163 (N : Nat) {sp p n B src y k m w : Int} {P : Int → Int} {M : Int → Int → Int} {F : Int → Int → Int → Int} {v : MSt} {z : Bq} (k58 : MSt → Int32 → Int32 → Int32 → Int32 → Int32 → Int32 → Int32 → Int32 → Option MSt) (h : BB sp p n P M F src v z) (hR : FR v F) (hnet : Net n P M) (hF : FV sp p n M B F) (hB : B ≤ 1000000) (n2 : n ≤ 10) (sp2 : sp ≤ 60) (p1 : 1 ≤ p) (k1 : 0 ≤ k) (k2 : k < n) (y1 : 0 ≤ y) (y2 : y < 488) (hy : z.1 y ≠ -1) (ht : y / 8 + p ≤ sp) (hM : M k (y / 8) ≠ -1) : ∃ (v' : MSt) (z' : Bq), mM_lookOn_163 N k58 v (I y) (I m) (I sp) (I p) (I w) (I (y / 8)) (I (y % 8)) (I k) (I (P k)) (I (M k (y / 8))) = mM_lookOn_208 N k58 v' (I y) (I m) (I sp) (I p) (I w) (I (y / 8)) (I (y % 8)) (I k) (I (P k)) ∧ BB sp p n P M F src v' z' ∧ VB v v' ∧ Ex z z' ∧ (y % 8 = M k (y / 8) → F 1 k (y / 8) = 0 → z'.1 (8 * (y / 8 + p) + P k) ≠ -1) := by
  have hn := hnet k k1 k2
  have hl := hn.2 (y / 8) (by omega)
  have f1 := hF.b01 (.inr rfl) k (y / 8)
  unfold mM_lookOn_163
  by_cases c1 : y % 8 = M k (y / 8)
  · rw [if_neg (not_not_intro (by rw [c1])), show (10 : Int32) = I 10 from rfl, I_mul, I_add, rd_I (by omega) (by omega) (by omega), (hR.1 k (y / 8) k1 (by omega) (by omega) (by omega)).2]
    by_cases c2 : F 1 k (y / 8) = 0
    · obtain ⟨v', z', e1, e2, e3, e4, e5⟩ := m_comeTo N h (x := 8 * (y / 8 + p) + P k) (y := y) (b := 200 + k) (by omega) (by omega) y1 y2 hy ((SB_A hnet n2 k1 k2 y1 ht hM).2 c1 c2)
      rw [if_neg (not_not_intro (by rw [c2]; rfl)), show (8 : Int32) = I 8 from rfl, I_add, I_mul, I_add, show (200 : Int32) = I 200 from rfl, I_add, e1, Option.bind_some]
      exact ⟨v', z', rfl, e2, e3, e4, fun _ _ => e5⟩
    · rw [if_pos (by rw [show (0 : Int32) = I 0 from rfl, I_eq (by omega) (by omega) (by omega) (by omega)]; exact c2)]
      exact ⟨v, z, rfl, h, VB.refl v, Ex.refl z, fun _ g => absurd g c2⟩
  · rw [if_pos (by rw [I_eq (by omega) (by omega) (by omega) (by omega)]; exact c1)]
    exact ⟨v, z, rfl, h, VB.refl v, Ex.refl z, fun g => absurd g c1⟩
theorem lk58 (N : Nat) {n fr se src y k m p w sp B : Int} {rw : Int → Int} {F : Int → Int → Int → Int} {v : MSt} {z : Bq} (k58 : MSt → Int32 → Int32 → Int32 → Int32 → Int32 → Int32 → Int32 → Int32 → Option MSt) (hMs : Mst v rw n fr (-1) (-1) se) (h : BB sp p n (Pw rw) (Mr (Lw (-1) (-1) se fr rw p w) m) F src v z) (hR : FR v F) (hF : FV sp p n (Mr (Lw (-1) (-1) se fr rw p w) m) B F) (hB : B ≤ 1000000) (sp1 : 0 ≤ sp) (sp2 : sp ≤ 60) (p1 : 1 ≤ p) (p2 : p ≤ 9) (w1 : 1 ≤ w) (w2 : w ≤ 9) (m1 : 0 ≤ m) (m2 : m ≤ 999) (k1 : 0 ≤ k) (k2 : k < n) (y1 : 0 ≤ y) (y2 : y < 488) (hy : z.1 y ≠ -1) : ∃ (v' : MSt) (z' : Bq), mM_lookOn_58 N k58 v (I y) (I m) (I sp) (I p) (I w) (I (y / 8)) (I (y % 8)) (I k) = mM_lookOn_208 N k58 v' (I y) (I m) (I sp) (I p) (I w) (I (y / 8)) (I (y % 8)) (I k) (I (Pw rw k)) ∧ BB sp p n (Pw rw) (Mr (Lw (-1) (-1) se fr rw p w) m) F src v' z' ∧ VB v v' ∧ Ex z z' ∧ RwA sp p (Pw rw) (Mr (Lw (-1) (-1) se fr rw p w) m) F y k z'.1 := by
  have n2 := hMs.2.2.2.2.2.1
  have hnet := Net_r (Net_w (p := p) (w := w) hMs) m1
  have hn := hnet k k1 k2
  have hmg := m_mg N (m := m) (t := y / 8) hMs k1 k2 (by omega) (by omega) p1 p2 w1 w2
  have r1 : v.2.1 5 (10 * k + 1).toNat = I (Pw rw k) := hMs.1 (10 * k + 1) (by omega) (by omega)
  unfold mM_lookOn_58
  rw [hMs.2.2.2.1, if_neg (by rw [I_le (by omega) (by omega) (by omega) (by omega)]; omega), show (10 : Int32) * I k + 1 = I (10 * k + 1) from by rw [show (10 : Int32) = I 10 from rfl, show (1 : Int32) = I 1 from rfl, I_mul, I_add], rd_I (by omega) (by omega) (by omega), r1, I_add, I_add]
  by_cases c0 : y / 8 + p ≤ sp
  · rw [if_neg (by rw [I_lt (by omega) (by omega) (by omega) (by omega)]; omega)]
    by_cases c1 : Mr (Lw (-1) (-1) se fr rw p w) m k (y / 8) = -1
    · rw [hmg.1 c1, Option.bind_some, if_pos rfl]
      exact ⟨v, z, rfl, h, VB.refl v, Ex.refl z, fun _ g => absurd c1 g⟩
    · have hl := hn.2 (y / 8) (by omega)
      have f0 := hF.b01 (.inl rfl) k (y / 8)
      rw [(hmg.2 c1).1, Option.bind_some, if_neg (show ¬ (1 : Int32) = 0 by decide), (hmg.2 c1).2, Option.bind_some]
      by_cases c2 : y % 8 = Pw rw k ∧ F 0 k (y / 8) = 0
      · obtain ⟨v1, z1, e1, e2, e3, e4, e5⟩ := m_comeTo N h (x := 8 * (y / 8 + p) + Mr (Lw (-1) (-1) se fr rw p w) m k (y / 8)) (y := y) (b := 100 + k) (by omega) (by omega) y1 y2 hy ((SB_A hnet n2 k1 k2 y1 c0 c1).1 c2.1 c2.2)
        obtain ⟨v2, z2, g1, g2, g3, g4, g5⟩ := lk163 N (m := m) (w := w) k58 e2 (e3.fr hR) hnet hF hB n2 sp2 p1 k1 k2 y1 y2 (e4.1 y hy) c0 c1
        rw [if_neg (not_not_intro (by rw [c2.1])), show (10 : Int32) = I 10 from rfl, I_mul, I_add, rd_I (by omega) (by omega) (by omega), (hR.1 k (y / 8) k1 (by omega) (by omega) (by omega)).1, if_neg (not_not_intro (by rw [c2.2]; rfl)), show (8 : Int32) = I 8 from rfl, I_mul, I_add, show (100 : Int32) = I 100 from rfl, I_add, e1, Option.bind_some, g1]
        exact ⟨v2, z2, rfl, g2, e3.trans g3, e4.trans g4, fun _ _ => ⟨fun _ _ => g4.1 _ e5, g5⟩⟩
      · obtain ⟨v2, z2, g1, g2, g3, g4, g5⟩ := lk163 N (m := m) (w := w) k58 h hR hnet hF hB n2 sp2 p1 k1 k2 y1 y2 hy c0 c1
        refine ⟨v2, z2, ?_, g2, g3, g4, fun _ _ => ⟨fun a b => absurd ⟨a, b⟩ c2, g5⟩⟩
        rw [← g1]
        by_cases c3 : y % 8 = Pw rw k
        · rw [if_neg (not_not_intro (by rw [c3])), show (10 : Int32) = I 10 from rfl, I_mul, I_add, rd_I (by omega) (by omega) (by omega), (hR.1 k (y / 8) k1 (by omega) (by omega) (by omega)).1, if_pos (by rw [show (0 : Int32) = I 0 from rfl, I_eq (by omega) (by omega) (by omega) (by omega)]; exact fun g => c2 ⟨c3, g⟩)]
        · rw [if_pos (by rw [I_eq (by omega) (by omega) (by omega) (by omega)]; exact c3)]
  · rw [if_pos (by rw [I_lt (by omega) (by omega) (by omega) (by omega)]; omega)]
    exact ⟨v, z, rfl, h, VB.refl v, Ex.refl z, fun g => absurd g c0⟩
theorem lk299 (N : Nat) {sp p n B src y k m w : Int} {P : Int → Int} {M : Int → Int → Int} {F : Int → Int → Int → Int} {v : MSt} {z : Bq} (k58 : MSt → Int32 → Int32 → Int32 → Int32 → Int32 → Int32 → Int32 → Int32 → Option MSt) (h : BB sp p n P M F src v z) (hR : FR v F) (hnet : Net n P M) (hF : FV sp p n M B F) (n2 : n ≤ 10) (p1 : 1 ≤ p) (p2 : p ≤ 9) (k1 : 0 ≤ k) (k2 : k < n) (y1 : 0 ≤ y) (y2 : y < 488) (hy : z.1 y ≠ -1) (ht : p ≤ y / 8) (hM : M k (y / 8 - p) ≠ -1) : ∃ (v' : MSt) (z' : Bq), mM_lookOn_299 N k58 v (I y) (I m) (I sp) (I p) (I w) (I (y / 8)) (I (y % 8)) (I k) (I (P k)) (I (M k (y / 8 - p))) = k58 v' (I y) (I m) (I sp) (I p) (I w) (I (y / 8)) (I (y % 8)) (I (k + 1)) ∧ BB sp p n P M F src v' z' ∧ VB v v' ∧ Ex z z' ∧ (y % 8 = P k → F 1 k (y / 8 - p) = 1 → z'.1 (8 * (y / 8 - p) + M k (y / 8 - p)) ≠ -1) := by
  have hn := hnet k k1 k2
  have hl := hn.2 (y / 8 - p) (by omega)
  have f1 := hF.b01 (.inr rfl) k (y / 8 - p)
  unfold mM_lookOn_299 mM_lookOn_348
  rw [show I k + 1 = I (k + 1) from I_add k 1]
  by_cases c1 : y % 8 = P k
  · rw [if_neg (not_not_intro (by rw [c1])), I_sub, show (10 : Int32) = I 10 from rfl, I_mul, I_add, rd_I (by omega) (by omega) (by omega), (hR.1 k (y / 8 - p) k1 (by omega) (by omega) (by omega)).2]
    by_cases c2 : F 1 k (y / 8 - p) = 1
    · obtain ⟨v', z', e1, e2, e3, e4, e5⟩ := m_comeTo N h (x := 8 * (y / 8 - p) + M k (y / 8 - p)) (y := y) (b := 400 + k) (by omega) (by omega) y1 y2 hy ((SB_B hnet hF n2 k1 k2 p1 y1 ht hM).2 c1 c2)
      rw [if_neg (not_not_intro (by rw [c2]; rfl)), show (8 : Int32) = I 8 from rfl, I_mul, I_add, show (400 : Int32) = I 400 from rfl, I_add, e1, Option.bind_some]
      exact ⟨v', z', rfl, e2, e3, e4, fun _ _ => e5⟩
    · rw [if_pos (by rw [show (1 : Int32) = I 1 from rfl, I_eq (by omega) (by omega) (by omega) (by omega)]; exact c2)]
      exact ⟨v, z, rfl, h, VB.refl v, Ex.refl z, fun _ g => absurd g c2⟩
  · rw [if_pos (by rw [I_eq (by omega) (by omega) (by omega) (by omega)]; exact c1)]
    exact ⟨v, z, rfl, h, VB.refl v, Ex.refl z, fun g => absurd g c1⟩
theorem lk208 (N : Nat) {n fr se src y k m p w sp B : Int} {rw : Int → Int} {F : Int → Int → Int → Int} {v : MSt} {z : Bq} (k58 : MSt → Int32 → Int32 → Int32 → Int32 → Int32 → Int32 → Int32 → Int32 → Option MSt) (hMs : Mst v rw n fr (-1) (-1) se) (h : BB sp p n (Pw rw) (Mr (Lw (-1) (-1) se fr rw p w) m) F src v z) (hR : FR v F) (hF : FV sp p n (Mr (Lw (-1) (-1) se fr rw p w) m) B F) (p1 : 1 ≤ p) (p2 : p ≤ 9) (w1 : 1 ≤ w) (w2 : w ≤ 9) (m1 : 0 ≤ m) (m2 : m ≤ 999) (k1 : 0 ≤ k) (k2 : k < n) (y1 : 0 ≤ y) (y2 : y < 488) (hy : z.1 y ≠ -1) : ∃ (v' : MSt) (z' : Bq), mM_lookOn_208 N k58 v (I y) (I m) (I sp) (I p) (I w) (I (y / 8)) (I (y % 8)) (I k) (I (Pw rw k)) = k58 v' (I y) (I m) (I sp) (I p) (I w) (I (y / 8)) (I (y % 8)) (I (k + 1)) ∧ BB sp p n (Pw rw) (Mr (Lw (-1) (-1) se fr rw p w) m) F src v' z' ∧ VB v v' ∧ Ex z z' ∧ RwB p (Pw rw) (Mr (Lw (-1) (-1) se fr rw p w) m) F y k z'.1 := by
  have n2 := hMs.2.2.2.2.2.1
  have hnet := Net_r (Net_w (p := p) (w := w) hMs) m1
  have hn := hnet k k1 k2
  unfold mM_lookOn_208 mM_lookOn_348
  by_cases c0 : p ≤ y / 8
  · have hmg := m_mg N (m := m) (t := y / 8 - p) hMs k1 k2 (by omega) (by omega) p1 p2 w1 w2
    rw [if_neg (by rw [I_lt (by omega) (by omega) (by omega) (by omega)]; omega), I_add, I_sub, show m + y / 8 - p = m + (y / 8 - p) by omega]
    by_cases c1 : Mr (Lw (-1) (-1) se fr rw p w) m k (y / 8 - p) = -1
    · rw [hmg.1 c1, Option.bind_some, if_pos rfl, show I k + 1 = I (k + 1) from I_add k 1]
      exact ⟨v, z, rfl, h, VB.refl v, Ex.refl z, fun _ g => absurd c1 g⟩
    · have hl := hn.2 (y / 8 - p) (by omega)
      have f0 := hF.b01 (.inl rfl) k (y / 8 - p)
      rw [(hmg.2 c1).1, Option.bind_some, if_neg (show ¬ (1 : Int32) = 0 by decide), (hmg.2 c1).2, Option.bind_some]
      by_cases c2 : y % 8 = Mr (Lw (-1) (-1) se fr rw p w) m k (y / 8 - p) ∧ F 0 k (y / 8 - p) = 1
      · obtain ⟨v1, z1, e1, e2, e3, e4, e5⟩ := m_comeTo N h (x := 8 * (y / 8 - p) + Pw rw k) (y := y) (b := 300 + k) (by omega) (by omega) y1 y2 hy ((SB_B hnet hF n2 k1 k2 p1 y1 c0 c1).1 c2.1 c2.2)
        obtain ⟨v2, z2, g1, g2, g3, g4, g5⟩ := lk299 N (m := m) (w := w) k58 e2 (e3.fr hR) hnet hF n2 p1 p2 k1 k2 y1 y2 (e4.1 y hy) c0 c1
        rw [if_neg (not_not_intro (by rw [← c2.1])), I_sub, show (10 : Int32) = I 10 from rfl, I_mul, I_add, rd_I (by omega) (by omega) (by omega), (hR.1 k (y / 8 - p) k1 (by omega) (by omega) (by omega)).1, if_neg (not_not_intro (by rw [c2.2]; rfl)), show (8 : Int32) = I 8 from rfl, I_mul, I_add, show (300 : Int32) = I 300 from rfl, I_add, e1, Option.bind_some, g1]
        exact ⟨v2, z2, rfl, g2, e3.trans g3, e4.trans g4, fun _ _ => ⟨fun _ _ => g4.1 _ e5, g5⟩⟩
      · obtain ⟨v2, z2, g1, g2, g3, g4, g5⟩ := lk299 N (m := m) (w := w) k58 h hR hnet hF n2 p1 p2 k1 k2 y1 y2 hy c0 c1
        refine ⟨v2, z2, ?_, g2, g3, g4, fun _ _ => ⟨fun a b => absurd ⟨a, b⟩ c2, g5⟩⟩
        rw [← g1]
        by_cases c3 : y % 8 = Mr (Lw (-1) (-1) se fr rw p w) m k (y / 8 - p)
        · rw [if_neg (not_not_intro (by rw [← c3])), I_sub, show (10 : Int32) = I 10 from rfl, I_mul, I_add, rd_I (by omega) (by omega) (by omega), (hR.1 k (y / 8 - p) k1 (by omega) (by omega) (by omega)).1, if_pos (by rw [show (1 : Int32) = I 1 from rfl, I_eq (by omega) (by omega) (by omega) (by omega)]; exact fun g => c2 ⟨c3, g⟩)]
        · rw [if_pos (by rw [I_eq (by omega) (by omega) (by omega) (by omega)]; exact c3)]
  · rw [if_pos (by rw [I_lt (by omega) (by omega) (by omega) (by omega)]; omega), show I k + 1 = I (k + 1) from I_add k 1]
    exact ⟨v, z, rfl, h, VB.refl v, Ex.refl z, fun g => absurd g c0⟩
