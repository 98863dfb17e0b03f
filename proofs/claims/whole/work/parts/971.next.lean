/-- the class's flow -/
def FC (u : USt) (F : Int → Int → Int → Int) : Prop := (∀ k t, 0 ≤ k → k < 10 → 0 ≤ t → t < 61 → u.2 19 (k * 61 + t).toNat = I (F 0 k t + 2 * F 1 k t)) ∧ ∀ i t, 0 ≤ i → i < 8 → 0 ≤ t → t < 61 → u.2 20 (i * 61 + t).toNat = I (F 2 i t)
def Mr (L : Int → Int → Int) (s : Int) (k t : Int) : Int := L k (s + t)
def nkA (sp p n : Int) (P : Int → Int) (M : Int → Int → Int) (F : Int → Int → Int → Int) (i t k : Int) : Int := if k < n ∧ t + p ≤ sp ∧ M k t ≠ -1 then (if i = P k ∧ F 0 k t = 0 then M k t * 61 + (t + p) else if i = M k t ∧ F 1 k t = 0 then P k * 61 + (t + p) else -1) else -1
def nkB (sp p n : Int) (P : Int → Int) (M : Int → Int → Int) (F : Int → Int → Int → Int) (i t k : Int) : Int := if k < n ∧ 0 ≤ t - p ∧ t ≤ sp ∧ M k (t - p) ≠ -1 then (if i = M k (t - p) ∧ F 0 k (t - p) ≠ 0 then P k * 61 + (t - p) else if i = P k ∧ F 1 k (t - p) ≠ 0 then M k (t - p) * 61 + (t - p) else -1) else -1
def nk (sp p n : Int) (P : Int → Int) (M : Int → Int → Int) (F : Int → Int → Int → Int) (x w : Int) : Int := if w < 10 then nkA sp p n P M F (x / 61) (x % 61) w else if w = 10 then (if x % 61 < sp then x / 61 * 61 + (x % 61 + 1) else -1) else if w < 21 then nkB sp p n P M F (x / 61) (x % 61) (w - 11) else (if 0 < x % 61 ∧ 0 < F 2 (x / 61) (x % 61 - 1) then x / 61 * 61 + (x % 61 - 1) else -1)
theorem x_knot (N : Nat) {i t : Int} (i1 : 0 ≤ i) (i2 : i < 8) (t1 : 0 ≤ t) (t2 : t < 61) : mX1_knot N (I i) (I t) = some (I (i * 61 + t)) := by
  unfold mX1_knot mX1_knot_24 mX1_knot_25 mX1_knot_40
  simp (disch := omega) only [I_lit, I_lt, I_le, I_mul, I_add]
  rw [if_neg (by omega), if_neg (by omega), if_neg (by omega), if_neg (by omega), if_neg (by decide)]
theorem x_land10 (N : Nat) {u : USt} {s sp p n k t : Int} {P : Int → Int} {L : Int → Int → Int} (h : Tab u s sp p n n P L) (k1 : 0 ≤ k) (k2 : k < 10) (n2 : n ≤ 10) (n1 : 0 ≤ n) (t1 : -100 ≤ t) (t2 : t ≤ 2000) (sp1 : 0 ≤ sp) (sp2 : sp ≤ 999) (p1 : 1 ≤ p) (p2 : p ≤ 9) : mX9_landing N u (I k) (I t) = some (I (if k < n ∧ 0 ≤ t ∧ t + p ≤ sp then Mr L s k t else -1)) := by
  by_cases q : k < n
  · rw [x_landing N h k1 q n2 t1 t2 sp1 sp2 p1 p2]
    by_cases q2 : 0 ≤ t ∧ t + p ≤ sp
    · rw [if_pos q2, if_pos ⟨q, q2⟩]
      rfl
    · rw [if_neg q2, if_neg (fun g => q2 g.2)]
  · rw [if_neg (fun g => q g.1)]
    unfold mX9_landing mX9_landing_33 mX9_landing_34 mX9_landing_51
    rw [h.2.2.2.1, show (0 : Int32) = I 0 from rfl, if_neg (by rw [I_lt (by omega) (by omega) (by omega) (by omega)]; omega), if_pos (by rw [I_le (by omega) (by omega) (by omega) (by omega)]; omega), if_pos rfl]
    rfl
theorem x_pivot9 (N : Nat) {u : USt} {s sp p n k t : Int} {P : Int → Int} {L : Int → Int → Int} (h : Tab u s sp p n n P L) (k1 : 0 ≤ k) (k2 : k < n) (n2 : n ≤ 10) (t1 : 0 ≤ t) (t2 : t < sp) (hL : Mr L s k t ≠ -1) : mX9_pivot N u (I k) = some (I (P k)) := by
  have r14 := (((h.2.2.2.2 k k1 k2).1 t t1 t2).2 hL).1
  unfold mX9_pivot mX9_pivot_21 mX9_pivot_22
  rw [h.2.2.2.1, show (0 : Int32) = I 0 from rfl, if_neg (by rw [I_lt (by omega) (by omega) (by omega) (by omega)]; omega), if_neg (by rw [I_le (by omega) (by omega) (by omega) (by omega)]; omega), rdX_14 k1 (by omega), r14]
theorem b3_1 {a b : Int} (ha : a = 0 ∨ a = 1) (hb : b = 0 ∨ b = 1) : (I (a + 2 * b) &&& 1 = 0) = (a = 0) := by
  rcases ha with rfl | rfl <;> rcases hb with rfl | rfl <;> simp only [eq_iff_iff] <;> decide
theorem b3_2 {a b : Int} (ha : a = 0 ∨ a = 1) (hb : b = 0 ∨ b = 1) : (I (a + 2 * b) &&& 2 = 0) = (b = 0) := by
  rcases ha with rfl | rfl <;> rcases hb with rfl | rfl <;> simp only [eq_iff_iff] <;> decide
theorem b3_x1 {a b : Int} (ha : a = 0 ∨ a = 1) (hb : b = 0 ∨ b = 1) : I (a + 2 * b) ^^^ 1 = I (1 - a + 2 * b) := by
  rcases ha with rfl | rfl <;> rcases hb with rfl | rfl <;> decide
theorem b3_x2 {a b : Int} (ha : a = 0 ∨ a = 1) (hb : b = 0 ∨ b = 1) : I (a + 2 * b) ^^^ 2 = I (a + 2 * (1 - b)) := by
  rcases ha with rfl | rfl <;> rcases hb with rfl | rfl <;> decide
theorem FV.b01 {sp p n B : Int} {M : Int → Int → Int} {F : Int → Int → Int → Int} (h : FV sp p n M B F) {c : Int} (hc : c = 0 ∨ c = 1) (k t : Int) : F c k t = 0 ∨ F c k t = 1 := by
  have a := h c k t (by omega)
  have b := a.2.1 (by omega)
  omega
theorem x_across (N : Nat) {u : USt} {s sp p n B k i t : Int} {P : Int → Int} {L : Int → Int → Int} {F : Int → Int → Int → Int} (hT : Tab u s sp p n n P L) (hnet : Net n P L) (hC : FC u F) (hF : FV sp p n (Mr L s) B F) (n1 : 0 ≤ n) (n2 : n ≤ 10) (s1 : 0 ≤ s) (sp1 : 0 ≤ sp) (sp2 : sp ≤ 60) (p1 : 1 ≤ p) (p2 : p ≤ 9) (k1 : 0 ≤ k) (k2 : k < 10) (i1 : 0 ≤ i) (i2 : i < 8) (t1 : 0 ≤ t) (t2 : t < 61) : mX1_acrossFrom N u (I k) (I i) (I t) = some (I (nkA sp p n P (Mr L s) F i t k)) := by
  unfold mX1_acrossFrom mX1_acrossFrom_64 mX1_acrossFrom_90 nkA
  rw [x_land10 N hT k1 k2 n2 n1 (by omega) (by omega) sp1 (by omega) p1 p2, Option.bind_some]
  by_cases q : k < n ∧ t + p ≤ sp ∧ Mr L s k t ≠ -1
  · have hn := hnet k k1 q.1
    have hl : -1 ≤ Mr L s k t ∧ Mr L s k t ≤ 7 ∧ Mr L s k t ≠ P k := hn.2 (s + t) (by omega)
    have f0 := hF.b01 (.inl rfl) k t
    have f1 := hF.b01 (.inr rfl) k t
    rw [if_pos (show k < n ∧ 0 ≤ t ∧ t + p ≤ sp by omega), if_pos q, if_pos (by rw [show (-1 : Int32) = I (-1) from rfl, I_eq (by omega) (by omega) (by omega) (by omega)]; exact q.2.2), x_pivot9 N hT k1 q.1 n2 t1 (by omega) q.2.2, Option.bind_some]
    rw [show (61 : Int32) = I 61 from rfl, I_mul, I_add, rdX_19 (by omega) (by omega), hC.1 k t k1 k2 t1 t2]
    have ep : mX9_pace N u = some (I p) := by
      unfold mX9_pace
      rw [hT.2.2.1]
    rw [ep, Option.bind_some, Option.bind_some, I_add, x_knot N (by omega) (by omega) (by omega) (by omega), x_knot N (by omega) (by omega) (by omega) (by omega), Option.bind_some, Option.bind_some]
    have ei : (I i = I (P k)) = (i = P k) := I_eq (by omega) (by omega) (by omega) (by omega)
    have em : (I i = I (Mr L s k t)) = (i = Mr L s k t) := I_eq (by omega) (by omega) (by omega) (by omega)
    simp only [b3_1 f0 f1, b3_2 f0 f1, ei, em]
    (repeat' split) <;> first | rfl | (exfalso; omega)
  · rw [if_neg q]
    have e : (if k < n ∧ 0 ≤ t ∧ t + p ≤ sp then Mr L s k t else -1) = -1 := by
      split
      · apply Classical.byContradiction
        intro h
        omega
      · rfl
    rw [e, if_neg (show ¬ ¬ I (-1) = (-1 : Int32) from not_not_intro rfl)]
    rfl
theorem x_tback (N : Nat) {u : USt} {s sp p n B k i t : Int} {P : Int → Int} {L : Int → Int → Int} {F : Int → Int → Int → Int} (hT : Tab u s sp p n n P L) (hnet : Net n P L) (hC : FC u F) (hF : FV sp p n (Mr L s) B F) (n1 : 0 ≤ n) (n2 : n ≤ 10) (s1 : 0 ≤ s) (sp1 : 0 ≤ sp) (sp2 : sp ≤ 60) (p1 : 1 ≤ p) (p2 : p ≤ 9) (k1 : 0 ≤ k) (k2 : k < 10) (i1 : 0 ≤ i) (i2 : i < 8) (t1 : 0 ≤ t) (t2 : t < 61) : mX1_takenBackFrom N u (I k) (I i) (I t) = some (I (nkB sp p n P (Mr L s) F i t k)) := by
  have ep : mX9_pace N u = some (I p) := by
    unfold mX9_pace
    rw [hT.2.2.1]
  unfold mX1_takenBackFrom mX1_takenBackFrom_68 mX1_takenBackFrom_89 nkB
  simp only [nm]
  rw [ep, Option.bind_some, I_sub, x_land10 N hT k1 k2 n2 n1 (by omega) (by omega) sp1 (by omega) p1 p2, Option.bind_some]
  by_cases q : k < n ∧ 0 ≤ t - p ∧ t ≤ sp ∧ Mr L s k (t - p) ≠ -1
  · have hn := hnet k k1 q.1
    have hl : -1 ≤ Mr L s k (t - p) ∧ Mr L s k (t - p) ≤ 7 ∧ Mr L s k (t - p) ≠ P k := hn.2 (s + (t - p)) (by omega)
    have f0 := hF.b01 (.inl rfl) k (t - p)
    have f1 := hF.b01 (.inr rfl) k (t - p)
    rw [if_pos (show k < n ∧ 0 ≤ t - p ∧ t - p + p ≤ sp by omega), if_pos q, if_pos (by rw [show (-1 : Int32) = I (-1) from rfl, I_eq (by omega) (by omega) (by omega) (by omega)]; exact q.2.2.2), x_pivot9 N hT k1 q.1 n2 (show 0 ≤ t - p by omega) (by omega) q.2.2.2, Option.bind_some]
    rw [show (61 : Int32) = I 61 from rfl, I_mul, I_add, rdX_19 (by omega) (by omega), hC.1 k (t - p) k1 k2 (by omega) (by omega)]
    rw [x_knot N (by omega) (by omega) (by omega) (by omega), x_knot N (by omega) (by omega) (by omega) (by omega), Option.bind_some, Option.bind_some]
    have ei : (I i = I (P k)) = (i = P k) := I_eq (by omega) (by omega) (by omega) (by omega)
    have em : (I i = I (Mr L s k (t - p))) = (i = Mr L s k (t - p)) := I_eq (by omega) (by omega) (by omega) (by omega)
    simp only [b3_1 f0 f1, b3_2 f0 f1, ei, em]
    (repeat' split) <;> first | rfl | (exfalso; omega)
  · rw [if_neg q]
    have e : (if k < n ∧ 0 ≤ t - p ∧ t - p + p ≤ sp then Mr L s k (t - p) else -1) = -1 := by
      split
      · apply Classical.byContradiction
        intro h
        omega
      · rfl
    rw [e, if_neg (show ¬ ¬ I (-1) = (-1 : Int32) from not_not_intro rfl)]
    rfl
theorem x_next (N : Nat) {u : USt} {s sp p n B x w : Int} {P : Int → Int} {L : Int → Int → Int} {F : Int → Int → Int → Int} (hT : Tab u s sp p n n P L) (hnet : Net n P L) (hC : FC u F) (hF : FV sp p n (Mr L s) B F) (hB : B ≤ 1000000) (n1 : 0 ≤ n) (n2 : n ≤ 10) (s1 : 0 ≤ s) (sp1 : 0 ≤ sp) (sp2 : sp ≤ 60) (p1 : 1 ≤ p) (p2 : p ≤ 9) (x1 : 0 ≤ x) (x2 : x < 488) (w1 : 0 ≤ w) (w2 : w < 22) : mX1_nextKnot N u (I x) (I w) = some (I (nk sp p n P (Mr L s) F x w)) := by
  have hi : 0 ≤ x / 61 ∧ x / 61 < 8 := ⟨Int.ediv_nonneg x1 (by omega), by omega⟩
  have hm : 0 ≤ x % 61 ∧ x % 61 < 61 := ⟨Int.emod_nonneg _ (by omega), Int.emod_lt_of_pos _ (by omega)⟩
  unfold mX1_nextKnot mX1_nextKnot_106 mX1_nextKnot_107 mX1_nextKnot_57 nk
  simp only [nm]
  rw [show (61 : Int32) = I 61 from rfl, I_rem x1 (by omega) (by omega) (by omega), I_div x1 (by omega) (by omega) (by omega), show (10 : Int32) = I 10 from rfl, show (21 : Int32) = I 21 from rfl, show (11 : Int32) = I 11 from rfl]
  by_cases q1 : w < 10
  · rw [if_pos q1, if_neg (by rw [I_le (by omega) (by omega) (by omega) (by omega)]; omega), x_across N hT hnet hC hF n1 n2 s1 sp1 sp2 p1 p2 w1 q1 hi.1 hi.2 hm.1 hm.2]
    rfl
  · rw [if_neg q1, if_pos (by rw [I_le (by omega) (by omega) (by omega) (by omega)]; omega)]
    by_cases q2 : w = 10
    · rw [if_pos q2, if_neg (not_not_intro (by rw [q2]))]
      have es : mX9_span N u = some (I sp) := by
        unfold mX9_span
        rw [hT.2.1]
      rw [es, Option.bind_some]
      by_cases q3 : x % 61 < sp
      · rw [if_pos q3, if_neg (by rw [I_le (by omega) (by omega) (by omega) (by omega)]; omega), show I (x % 61) + 1 = I (x % 61 + 1) from I_add _ 1, x_knot N hi.1 hi.2 (by omega) (by omega)]
        rfl
      · rw [if_neg q3, if_pos (by rw [I_le (by omega) (by omega) (by omega) (by omega)]; omega)]
        rfl
    · rw [if_neg q2, if_pos (by rw [I_eq (by omega) (by omega) (by omega) (by omega)]; exact q2)]
      by_cases q3 : w < 21
      · rw [if_pos q3, if_neg (by rw [I_le (by omega) (by omega) (by omega) (by omega)]; omega), I_sub, x_tback N hT hnet hC hF n1 n2 s1 sp1 sp2 p1 p2 (by omega) (by omega) hi.1 hi.2 hm.1 hm.2]
        rfl
      · rw [if_neg q3, if_pos (by rw [I_le (by omega) (by omega) (by omega) (by omega)]; omega)]
        by_cases q4 : 0 < x % 61
        · have e1 : I x - 1 = I (x - 1) := I_sub x 1
          have e2 : x - 1 = x / 61 * 61 + (x % 61 - 1) := by omega
          have f2 := hF 2 (x / 61) (x % 61 - 1) (.inr (.inr rfl))
          rw [show (0 : Int32) = I 0 from rfl, if_neg (by rw [I_le (by omega) (by omega) (by omega) (by omega)]; omega), e1, rdX_20 (by omega) (by omega), e2, hC.2 _ _ hi.1 hi.2 (by omega) (by omega)]
          by_cases q5 : 0 < F 2 (x / 61) (x % 61 - 1)
          · rw [if_neg (by rw [I_le (by omega) (by omega) (by omega) (by omega)]; omega), if_pos ⟨q4, q5⟩, show I (x % 61) - 1 = I (x % 61 - 1) from I_sub _ 1, x_knot N hi.1 hi.2 (by omega) (by omega)]
            rfl
          · rw [if_pos (by rw [I_le (by omega) (by omega) (by omega) (by omega)]; omega), if_neg (fun g => q5 g.2)]
            rfl
        · rw [show (0 : Int32) = I 0 from rfl, if_pos (by rw [I_le (by omega) (by omega) (by omega) (by omega)]; omega), if_neg (fun g => q4 g.1)]
          rfl
