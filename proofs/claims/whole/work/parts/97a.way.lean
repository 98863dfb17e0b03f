theorem RS.cong {sp p n i t j s c k q x : Int} {P : Int → Int} {M : Int → Int → Int} {F F' : Int → Int → Int → Int} (h : RS sp p n P M F i t j s c k q x) (e : F' c k q = F c k q) : RS sp p n P M F' i t j s c k q x := by
  unfold RS at *
  rw [e]
  exact h
theorem RS_t {sp p n i t j s c k q x : Int} {P : Int → Int} {M : Int → Int → Int} {F : Int → Int → Int → Int} (p1 : 1 ≤ p) (h : RS sp p n P M F i t j s c k q x) : s ≤ sp := by
  obtain ⟨hv, h⟩ := h
  have hh : q ≤ sp ∧ ht p c q ≤ sp := by
    unfold ht
    split <;> omega
  omega
def VT (v v' : MSt) : Prop := v'.1 = v.1 ∧ ∀ a, a ≠ 13 → a ≠ 14 → a ≠ 15 → v'.2.1 a = v.2.1 a
theorem VT.refl (v : MSt) : VT v v := ⟨rfl, fun _ _ _ _ => rfl⟩
theorem VT.trans {v v' v'' : MSt} (h : VT v v') (g : VT v' v'') : VT v v'' := ⟨g.1.trans h.1, fun a q1 q2 q3 => (g.2 a q1 q2 q3).trans (h.2 a q1 q2 q3)⟩
theorem VT_sa (v : MSt) {k : Nat} (j : Nat) (x : Int32) (hk : k = 13 ∨ k = 14 ∨ k = 15) : VT v (saM v k j x) := ⟨rfl, fun a a1 a2 a3 => saM_ne (by omega)⟩
theorem FR.up14 {v : MSt} {F : Int → Int → Int → Int} (h : FR v F) {k t x y : Int} (t1 : 0 ≤ t) (k1 : 0 ≤ k) (k2 : k < 10) (hy : y = F 0 k t + x) : FR (saM v 14 (10 * t + k).toNat (I y)) (Fup F 0 k t x) := by
  refine ⟨fun k' t' a1 a2 a3 a4 => ⟨?_, ?_⟩, fun i t' a1 a2 a3 a4 => ?_⟩
  · rw [saM_g]
    by_cases e : k' = k ∧ t' = t
    · rw [e.1, e.2, ud_eq, Fup_eq, hy]
    · rw [ud_ne (by omega), Fup_ne (fun g => e g.2)]
      exact (h.1 k' t' a1 a2 a3 a4).1
  · rw [saM_ne (by omega), Fup_ne (by omega)]
    exact (h.1 k' t' a1 a2 a3 a4).2
  · rw [saM_ne (by omega), Fup_ne (by omega)]
    exact h.2 i t' a1 a2 a3 a4
theorem FR.up15 {v : MSt} {F : Int → Int → Int → Int} (h : FR v F) {k t x y : Int} (t1 : 0 ≤ t) (k1 : 0 ≤ k) (k2 : k < 10) (hy : y = F 1 k t + x) : FR (saM v 15 (10 * t + k).toNat (I y)) (Fup F 1 k t x) := by
  refine ⟨fun k' t' a1 a2 a3 a4 => ⟨?_, ?_⟩, fun i t' a1 a2 a3 a4 => ?_⟩
  · rw [saM_ne (by omega), Fup_ne (by omega)]
    exact (h.1 k' t' a1 a2 a3 a4).1
  · rw [saM_g]
    by_cases e : k' = k ∧ t' = t
    · rw [e.1, e.2, ud_eq, Fup_eq, hy]
    · rw [ud_ne (by omega), Fup_ne (fun g => e g.2)]
      exact (h.1 k' t' a1 a2 a3 a4).2
  · rw [saM_ne (by omega), Fup_ne (by omega)]
    exact h.2 i t' a1 a2 a3 a4
theorem FR.up13 {v : MSt} {F : Int → Int → Int → Int} (h : FR v F) {i t x : Int} (t1 : 0 ≤ t) (i1 : 0 ≤ i) (i2 : i < 8) : FR (saM v 13 (8 * t + i).toNat (I (F 2 i t + x))) (Fup F 2 i t x) := by
  refine ⟨fun k' t' a1 a2 a3 a4 => ⟨?_, ?_⟩, fun i' t' a1 a2 a3 a4 => ?_⟩
  · rw [saM_ne (by omega), Fup_ne (by omega)]
    exact (h.1 k' t' a1 a2 a3 a4).1
  · rw [saM_ne (by omega), Fup_ne (by omega)]
    exact (h.1 k' t' a1 a2 a3 a4).2
  · rw [saM_g]
    by_cases e : i' = i ∧ t' = t
    · rw [e.1, e.2, ud_eq, Fup_eq]
    · rw [ud_ne (by omega), Fup_ne (fun g => e g.2)]
      exact h.2 i' t' a1 a2 a3 a4
theorem tw_step (N f : Nat) {sp p n B src x y b : Int} {P : Int → Int} {M : Int → Int → Int} {F : Int → Int → Int → Int} {v : MSt} (hR : FR v F) (hF : FV sp p n M B F) (hnet : Net n P M) (n2 : n ≤ 10) (sp2 : sp ≤ 60) (p1 : 1 ≤ p) (s1 : 0 ≤ src) (s2 : src < 488) (x1 : 0 ≤ x) (x2 : x < 488) (y1 : 0 ≤ y) (y2 : y < 488) (hxs : x ≠ src) (h16 : v.2.1 16 x.toNat = I y) (h17 : v.2.1 17 x.toNat = I b) (hs : SB sp p n P M F y x b) : ∃ v', mM_takeWay_h2 N (f + 1) v (I src) (I x) = mM_takeWay_h2 N f v' (I src) (I y) ∧ VT v v' ∧ FR v' (Fup F (bc b) (bk b y) (bq b y x) (bx b)) := by
  obtain ⟨hb, hv, hr⟩ := hs
  show ∃ v', mM_takeWay_2 N _ _ _ _ = _ ∧ _
  unfold mM_takeWay_2 mM_takeWay_167
  rw [if_neg (by rw [I_eq (by omega) (by omega) (by omega) (by omega)]; exact hxs), rd_I x1 (by omega) (by omega), h16, rd_I x1 (by omega) (by omega), h17, nm_eq, show (100 : Int32) = I 100 from rfl, I_rem (by omega) (by omega) (by omega) (by omega), show (8 : Int32) = I 8 from rfl, I_div y1 (by omega) (by omega) (by omega), I_div x1 (by omega) (by omega) (by omega), show (10 : Int32) = I 10 from rfl, I_mul, I_mul, I_add, I_add, show (200 : Int32) = I 200 from rfl, show (300 : Int32) = I 300 from rfl, show (400 : Int32) = I 400 from rfl]
  have m0 : ∀ k : Int, (I b = (0 : Int32)) = (b = 0) := fun _ => by
    rw [show (0 : Int32) = I 0 from rfl, I_eq (by omega) (by omega) (by omega) (by omega)]
  have m1 : (I b = (1 : Int32)) = (b = 1) := by
    rw [show (1 : Int32) = I 1 from rfl, I_eq (by omega) (by omega) (by omega) (by omega)]
  rcases hb with hb | hb | hb | hb | hb | hb
  · subst hb
    rw [if_neg (show ¬ ¬ I 0 = (0 : Int32) from not_not_intro rfl), rd_I y1 (by omega) (by omega), wr_I y1 (by omega) (by omega), nm_eq]
    have e2 := hR.2 (y % 8) (y / 8) (by omega) (by omega) (by omega) (by omega)
    rw [show 8 * (y / 8) + y % 8 = y by omega] at e2
    rw [e2, show I (F 2 (y % 8) (y / 8)) + 1 = I (F 2 (y % 8) (y / 8) + 1) from I_add _ 1]
    refine ⟨_, rfl, VT_sa _ _ _ (.inl rfl), ?_⟩
    have := hR.up13 (i := y % 8) (t := y / 8) (x := 1) (by omega) (by omega) (by omega)
    rw [show 8 * (y / 8) + y % 8 = y by omega] at this
    exact this
  · subst hb
    rw [if_pos (show ¬ I 1 = (0 : Int32) by decide), if_neg (show ¬ ¬ I 1 = (1 : Int32) from not_not_intro rfl), rd_I x1 (by omega) (by omega), wr_I x1 (by omega) (by omega), nm_eq]
    have hx8 : x % 8 = y % 8 := by
      rcases hr with ⟨z, -⟩ | ⟨-, -, -, z, -, -⟩
      · exact absurd z (by decide)
      · exact z
    have e2 := hR.2 (y % 8) (x / 8) (by omega) (by omega) (by omega) (by omega)
    rw [show 8 * (x / 8) + y % 8 = x by omega] at e2
    rw [e2, show I (F 2 (y % 8) (x / 8)) - 1 = I (F 2 (y % 8) (x / 8) + -1) from I_sub _ 1]
    refine ⟨_, rfl, VT_sa _ _ _ (.inl rfl), ?_⟩
    have := hR.up13 (i := y % 8) (t := x / 8) (x := -1) (by omega) (by omega) (by omega)
    rw [show 8 * (x / 8) + y % 8 = x by omega] at this
    exact this
  · have e1 : bc b = 0 := by
      unfold bc
      rw [if_neg (by omega), if_pos (by omega)]
    have e2 : bk b y = b % 100 := by
      unfold bk
      rw [if_neg (by omega)]
    have e3 : bq b y x = y / 8 := by
      unfold bq
      rw [if_neg (by omega), if_neg (by omega), if_pos (by omega)]
    have e4 : bx b = 1 := by
      unfold bx
      rw [if_neg (by omega), if_neg (by omega), if_pos (by omega)]
    rw [e1, e2, e3, e4] at hr ⊢
    rw [if_pos (by rw [m0 0]; omega), if_pos (by rw [m1]; omega), if_neg (by rw [I_le (by omega) (by omega) (by omega) (by omega)]; omega), wr_I (by omega) (by omega) (by omega), nm_eq]
    refine ⟨_, rfl, VT_sa _ _ _ (.inr (.inl rfl)), hR.up14 (y := 1) (by omega) (by omega) (by omega) ?_⟩
    omega
  · have e1 : bc b = 1 := by
      unfold bc
      rw [if_neg (by omega), if_neg (by omega), if_pos (by omega)]
    have e2 : bk b y = b % 100 := by
      unfold bk
      rw [if_neg (by omega)]
    have e3 : bq b y x = y / 8 := by
      unfold bq
      rw [if_neg (by omega), if_neg (by omega), if_pos (by omega)]
    have e4 : bx b = 1 := by
      unfold bx
      rw [if_neg (by omega), if_neg (by omega), if_pos (by omega)]
    rw [e1, e2, e3, e4] at hr ⊢
    rw [if_pos (by rw [m0 0]; omega), if_pos (by rw [m1]; omega), if_pos (by rw [I_le (by omega) (by omega) (by omega) (by omega)]; omega), if_neg (by rw [I_le (by omega) (by omega) (by omega) (by omega)]; omega), wr_I (by omega) (by omega) (by omega), nm_eq]
    refine ⟨_, rfl, VT_sa _ _ _ (.inr (.inr rfl)), hR.up15 (y := 1) (by omega) (by omega) (by omega) ?_⟩
    omega
  · have e1 : bc b = 0 := by
      unfold bc
      rw [if_neg (by omega), if_neg (by omega), if_neg (by omega), if_pos (by omega)]
    have e2 : bk b y = b % 100 := by
      unfold bk
      rw [if_neg (by omega)]
    have e3 : bq b y x = x / 8 := by
      unfold bq
      rw [if_neg (by omega), if_neg (by omega), if_neg (by omega)]
    have e4 : bx b = -1 := by
      unfold bx
      rw [if_neg (by omega), if_neg (by omega), if_neg (by omega)]
    rw [e1, e2, e3, e4] at hr ⊢
    have f0 := hF.b01 (.inl rfl) (b % 100) (x / 8)
    rw [if_pos (by rw [m0 0]; omega), if_pos (by rw [m1]; omega), if_pos (by rw [I_le (by omega) (by omega) (by omega) (by omega)]; omega), if_pos (by rw [I_le (by omega) (by omega) (by omega) (by omega)]; omega), if_neg (by rw [I_le (by omega) (by omega) (by omega) (by omega)]; omega), wr_I (by omega) (by omega) (by omega), nm_eq]
    refine ⟨_, rfl, VT_sa _ _ _ (.inr (.inl rfl)), hR.up14 (y := 0) (by omega) (by omega) (by omega) ?_⟩
    omega
  · have e1 : bc b = 1 := by
      unfold bc
      rw [if_neg (by omega), if_neg (by omega), if_neg (by omega), if_neg (by omega)]
    have e2 : bk b y = b % 100 := by
      unfold bk
      rw [if_neg (by omega)]
    have e3 : bq b y x = x / 8 := by
      unfold bq
      rw [if_neg (by omega), if_neg (by omega), if_neg (by omega)]
    have e4 : bx b = -1 := by
      unfold bx
      rw [if_neg (by omega), if_neg (by omega), if_neg (by omega)]
    rw [e1, e2, e3, e4] at hr ⊢
    have f0 := hF.b01 (.inr rfl) (b % 100) (x / 8)
    rw [if_pos (by rw [m0 0]; omega), if_pos (by rw [m1]; omega), if_pos (by rw [I_le (by omega) (by omega) (by omega) (by omega)]; omega), if_pos (by rw [I_le (by omega) (by omega) (by omega) (by omega)]; omega), if_pos (by rw [I_le (by omega) (by omega) (by omega) (by omega)]; omega), wr_I (by omega) (by omega) (by omega), nm_eq]
    refine ⟨_, rfl, VT_sa _ _ _ (.inr (.inr rfl)), hR.up15 (y := 0) (by omega) (by omega) (by omega) ?_⟩
    omega
