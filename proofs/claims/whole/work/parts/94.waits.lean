def lw (S : Int → Int) : Nat → Int → Int → Int
  | 0, _, c => c
  | d + 1, t, c => if S t = -1 then -1 else lw S d (t + 1) (if c < S t - t then S t - t else c)
def sw (S : Int → Int) : Nat → Int → Int → Int
  | 0, _, c => c
  | d + 1, t, c => if S t = -1 then -1 else sw S d (t + 1) (c + (S t - t))
def Sok (S : Int → Int) : Prop := ∀ t, 0 ≤ t → t < 60 → S t = -1 ∨ (t ≤ S t ∧ S t ≤ t + 400)
theorem lw_sw {S : Int → Int} (hS : Sok S) : ∀ (d : Nat) (t c c' : Int), 0 ≤ t → t + d ≤ 60 → 0 ≤ c → 0 ≤ c' → (lw S d t c = -1 ↔ sw S d t c' = -1)
  | 0, t, c, c', _, _, h1, h2 => by
      show c = -1 ↔ c' = -1
      omega
  | d + 1, t, c, c', t1, t2, h1, h2 => by
      have e1 : lw S (d + 1) t c = if S t = -1 then -1 else lw S d (t + 1) (if c < S t - t then S t - t else c) := rfl
      have e2 : sw S (d + 1) t c' = if S t = -1 then -1 else sw S d (t + 1) (c' + (S t - t)) := rfl
      rw [e1, e2]
      have := hS t t1 (by omega)
      by_cases q : S t = -1
      · rw [if_pos q, if_pos q]
      · rw [if_neg q, if_neg q]
        exact lw_sw hS d (t + 1) _ _ (by omega) (by omega) (by split <;> omega) (by omega)
theorem lw_b {S : Int → Int} (hS : Sok S) : ∀ (d : Nat) (t c : Int), 0 ≤ t → t + d ≤ 60 → 0 ≤ c → c ≤ 400 → -1 ≤ lw S d t c ∧ lw S d t c ≤ 400
  | 0, t, c, _, _, h1, h2 => by
      show -1 ≤ c ∧ c ≤ 400
      omega
  | d + 1, t, c, t1, t2, h1, h2 => by
      have e1 : lw S (d + 1) t c = if S t = -1 then -1 else lw S d (t + 1) (if c < S t - t then S t - t else c) := rfl
      rw [e1]
      have := hS t t1 (by omega)
      by_cases q : S t = -1
      · rw [if_pos q]
        omega
      · rw [if_neg q]
        exact lw_b hS d (t + 1) _ (by omega) (by omega) (by split <;> omega) (by split <;> omega)
theorem sw_b {S : Int → Int} (hS : Sok S) : ∀ (d : Nat) (t c : Int), 0 ≤ t → t + d ≤ 60 → 0 ≤ c → c ≤ 400 * t → -1 ≤ sw S d t c ∧ sw S d t c ≤ 24000
  | 0, t, c, _, _, h1, h2 => by
      show -1 ≤ c ∧ c ≤ 24000
      omega
  | d + 1, t, c, t1, t2, h1, h2 => by
      have e1 : sw S (d + 1) t c = if S t = -1 then -1 else sw S d (t + 1) (c + (S t - t)) := rfl
      rw [e1]
      have := hS t t1 (by omega)
      by_cases q : S t = -1
      · rw [if_pos q]
        omega
      · rw [if_neg q]
        exact sw_b hS d (t + 1) _ (by omega) (by omega) (by omega) (by omega)
theorem x_wait (N : Nat) {u : USt} {G : Int → Int → Int} {z x t : Int} {S : Int → Int} (u16 : u.1 16 = I z) (hF : FG u G 0 z) (x1 : 0 ≤ x) (x2 : x < 8) (t1 : 0 ≤ t) (t2 : t < 60) (t3 : t ≤ z) (hz : z ≤ 459) (g1 : t ≤ G x t) (g2 : G x t ≤ 2147483647) (hS : S t = if G x t ≤ t + 400 then G x t else -1) : mX9_waitFrom N u (I x) (I t) = some (I (if S t = -1 then -1 else S t - t)) := by
  unfold mX9_waitFrom mX9_waitFrom_25 mX9_waitFrom_51 mX9_waitFrom_58
  rw [x_isIslet N (by omega) (by omega), Option.bind_some, bo_t (show 0 ≤ x ∧ x < 8 from ⟨x1, x2⟩), if_neg (by decide), u16]
  rw [if_neg (by rw [show (0 : Int32) = I 0 from rfl, I_lt (by omega) (by omega) (by omega) (by omega)]; omega), if_neg (by rw [show (60 : Int32) = I 60 from rfl, I_le (by omega) (by omega) (by omega) (by omega)]; omega), if_pos (by rw [I_le (by omega) (by omega) (by omega) (by omega)]; omega), wr_I x1 (by omega) (by omega), rdX_F (by omega) t1 (by omega), hF x t x1 x2 t1 t3, I_sub, hS]
  by_cases q : G x t ≤ t + 400
  · rw [if_neg (by rw [show (2147483647 : Int32) = I 2147483647 from rfl, I_eq (by omega) (by omega) (by omega) (by omega)]; omega), if_pos (by rw [show (400 : Int32) = I 400 from rfl, I_le (by omega) (by omega) (by omega) (by omega)]; omega), if_pos q, if_neg (by omega)]
  · rw [if_neg q, if_pos rfl]
    by_cases q2 : G x t = 2147483647
    · rw [if_pos (by rw [q2]; rfl)]
      rfl
    · rw [if_neg (by rw [show (2147483647 : Int32) = I 2147483647 from rfl, I_eq (by omega) (by omega) (by omega) (by omega)]; omega), if_neg (by rw [show (400 : Int32) = I 400 from rfl, I_le (by omega) (by omega) (by omega) (by omega)]; omega)]
      rfl
theorem x_long {u : USt} {x m : Int} {S : Int → Int} (hS : Sok S) (m2 : m ≤ 60) (hw : ∀ t, 0 ≤ t → t < m → mX9_waitFrom NF u (I x) (I t) = some (I (if S t = -1 then -1 else S t - t))) : ∀ (d f : Nat) (t c : Int), d < f → (d : Int) = m - t → 0 ≤ t → 0 ≤ c → c ≤ 400 → mX9_longestWait_h5 NF u f (I x) (I m) (I c) (I t) = some (I (lw S d t c)) := by
  intro d
  induction d with
  | zero =>
    intro f t c hf hd ht c1 c2
    obtain ⟨f, rfl⟩ : ∃ g, f = g + 1 := ⟨f - 1, by omega⟩
    show mX9_longestWait_5 NF _ _ _ _ _ _ = _
    unfold mX9_longestWait_5
    rw [if_pos (by rw [I_le (by omega) (by omega) (by omega) (by omega)]; omega)]
    rfl
  | succ d ih =>
    intro f t c hf hd ht c1 c2
    obtain ⟨f, rfl⟩ : ∃ g, f = g + 1 := ⟨f - 1, by omega⟩
    have hs := hS t ht (by omega)
    have e1 : lw S (d + 1) t c = if S t = -1 then -1 else lw S d (t + 1) (if c < S t - t then S t - t else c) := rfl
    show mX9_longestWait_5 NF _ _ _ _ _ _ = _
    unfold mX9_longestWait_5
    rw [if_neg (by rw [I_le (by omega) (by omega) (by omega) (by omega)]; omega), hw t ht (by omega), Option.bind_some, e1]
    by_cases q : S t = -1
    · rw [if_pos q, if_pos q, if_neg (by decide)]
      rfl
    · rw [if_neg q, if_neg q, if_pos (by rw [show (-1 : Int32) = I (-1) from rfl, I_eq (by omega) (by omega) (by omega) (by omega)]; omega), mmax_eq, Option.bind_some, show I t + 1 = I (t + 1) from I_add t 1]
      have e : (if I c < I (S t - t) then I (S t - t) else I c) = I (if c < S t - t then S t - t else c) := by
        by_cases q3 : c < S t - t
        · rw [if_pos q3, if_pos (by rw [I_lt (by omega) (by omega) (by omega) (by omega)]; exact q3)]
        · rw [if_neg q3, if_neg (by rw [I_lt (by omega) (by omega) (by omega) (by omega)]; exact q3)]
      rw [e]
      exact ih f (t + 1) _ (by omega) (by omega) (by omega) (by split <;> omega) (by split <;> omega)
theorem x_sum {u : USt} {x m : Int} {S : Int → Int} (hS : Sok S) (m2 : m ≤ 60) (hw : ∀ t, 0 ≤ t → t < m → mX9_waitFrom NF u (I x) (I t) = some (I (if S t = -1 then -1 else S t - t))) : ∀ (d f : Nat) (t c : Int), d < f → (d : Int) = m - t → 0 ≤ t → mX9_waitsTogether_h5 NF u f (I x) (I m) (I c) (I t) = some (I (sw S d t c)) := by
  intro d
  induction d with
  | zero =>
    intro f t c hf hd ht
    obtain ⟨f, rfl⟩ : ∃ g, f = g + 1 := ⟨f - 1, by omega⟩
    show mX9_waitsTogether_5 NF _ _ _ _ _ _ = _
    unfold mX9_waitsTogether_5
    rw [if_pos (by rw [I_le (by omega) (by omega) (by omega) (by omega)]; omega)]
    rfl
  | succ d ih =>
    intro f t c hf hd ht
    obtain ⟨f, rfl⟩ : ∃ g, f = g + 1 := ⟨f - 1, by omega⟩
    have hs := hS t ht (by omega)
    have e1 : sw S (d + 1) t c = if S t = -1 then -1 else sw S d (t + 1) (c + (S t - t)) := rfl
    show mX9_waitsTogether_5 NF _ _ _ _ _ _ = _
    unfold mX9_waitsTogether_5
    simp only [nm]
    rw [if_neg (by rw [I_le (by omega) (by omega) (by omega) (by omega)]; omega), hw t ht (by omega), Option.bind_some, e1]
    by_cases q : S t = -1
    · rw [if_pos q, if_pos q, if_neg (by decide)]
      rfl
    · rw [if_neg q, if_neg q, if_pos (by rw [show (-1 : Int32) = I (-1) from rfl, I_eq (by omega) (by omega) (by omega) (by omega)]; omega), I_add, show I t + 1 = I (t + 1) from I_add t 1]
      exact ih f (t + 1) _ (by omega) (by omega) (by omega)
/-- the reference's state but for its waits -/
def VW (v v' : MSt) : Prop := (∀ a, a ≠ 11 → a ≠ 12 → v'.1 a = v.1 a) ∧ ∀ a, a ≠ 10 → v'.2.1 a = v.2.1 a
theorem VW.refl (v : MSt) : VW v v := ⟨fun _ _ _ => rfl, fun _ _ => rfl⟩
theorem VW.trans {v v' v'' : MSt} (h : VW v v') (g : VW v' v'') : VW v v'' := ⟨fun a a1 a2 => (g.1 a a1 a2).trans (h.1 a a1 a2), fun a a1 => (g.2 a a1).trans (h.2 a a1)⟩
theorem VW.km {v v' : MSt} (h : VW v v') : KM v v' := ⟨fun k q => h.1 k (by omega) (by omega), fun a q => h.2 a (by omega)⟩
theorem VW.mst {v v' : MSt} {rw : Int → Int} {n fr wo sk se : Int} (h : VW v v') (hM : Mst v rw n fr wo sk se) : Mst v' rw n fr wo sk se := hM.keep h.km (h.1 9 (by omega) (by omega))
theorem VS.vw {v0 v v' : MSt} {k y : Int} (h : VS v0 v k y) (g : VW v v') : VS v0 v' k y := ⟨fun a a1 a2 => (g.1 a a1 a2).trans (h.1 a a1 a2), fun a a1 a2 => (g.2 a a1).trans (h.2.1 a a1 a2), (g.2 5 (by omega)).trans h.2.2⟩
theorem VW_si (v : MSt) {a : Nat} (ha : a = 11 ∨ a = 12) (x : Int32) : VW v (siM v a x) := ⟨fun b b1 b2 => vu_ne (by omega), fun _ _ => rfl⟩
theorem VW_sf (v : MSt) (g : Nat → Int32) : VW v (sfM v 10 g) := ⟨fun _ _ _ => rfl, fun a q => sfM_ne q⟩
theorem siM_g (v : MSt) (k : Nat) (x : Int32) : (siM v k x).1 k = x := vu_eq _ _ _
theorem siM_ne {v : MSt} {k j : Nat} {x : Int32} (h : j ≠ k) : (siM v k x).1 j = v.1 j := vu_ne h
theorem m_lw13 {rw : Int → Int} {n fr wo sk se p w x y m : Int} {S : Int → Int} (hSok : Sok S) (p1 : 1 ≤ p) (p2 : p ≤ 9) (w1 : 1 ≤ w) (w2 : w ≤ 9) (x1 : 0 ≤ x) (x2 : x < 8) (y1 : 0 ≤ y) (y2 : y < 8) (m2 : m ≤ 60) (hS : ∀ t, 0 ≤ t → t < m → S t = soo (arr p (Pw rw) (Lw wo sk se fr rw p w) n.toNat x t) y) : ∀ (d f : Nat) (t c s : Int) (v : MSt), d < f → (d : Int) = m - t → 0 ≤ t → 0 ≤ c → c ≤ 400 → Mst v rw n fr wo sk se → v.1 11 = I s → v.1 12 = I c → ∃ (v' : MSt) (s' : Int), mM_layWaits_h13 NF f v (I x) (I y) (I m) (I p) (I w) (I t) = some v' ∧ VW v v' ∧ v'.1 12 = I (lw S d t c) ∧ v'.1 11 = I s' ∧ (lw S d t c = -1 ∨ s' = sw S d t s) := by
  intro d
  induction d with
  | zero =>
    intro f t c s v hf hd ht c1 c2 hM h11 h12
    obtain ⟨f, rfl⟩ : ∃ g, f = g + 1 := ⟨f - 1, by omega⟩
    refine ⟨v, s, ?_, VW.refl v, h12, h11, .inr rfl⟩
    show mM_layWaits_13 NF _ _ _ _ _ _ _ _ = _
    unfold mM_layWaits_13 mM_layWaits_99
    rw [if_pos (by rw [I_le (by omega) (by omega) (by omega) (by omega)]; omega)]
  | succ d ih =>
    intro f t c s v hf hd ht c1 c2 hM h11 h12
    obtain ⟨f, rfl⟩ : ∃ g, f = g + 1 := ⟨f - 1, by omega⟩
    have hs := hSok t ht (by omega)
    obtain ⟨g2, f3⟩ := m_soonestOf hM p1 p2 w1 w2 (m := t) ht (by omega) x1 x2 y1 y2
    rw [← hS t ht (by omega)] at f3
    have e1 : lw S (d + 1) t c = if S t = -1 then -1 else lw S d (t + 1) (if c < S t - t then S t - t else c) := rfl
    have e2 : sw S (d + 1) t s = if S t = -1 then -1 else sw S d (t + 1) (s + (S t - t)) := rfl
    have k11 : (sfM v 10 g2).1 11 = I s := h11
    have k12 : ∀ a, va_up (sfM v 10 g2).1 11 a 12 = I c := fun a => (vu_ne (by omega)).trans h12
    have X : mM_layWaits_h13 NF (f + 1) v (I x) (I y) (I m) (I p) (I w) (I t) = mM_layWaits_h13 NF f (siM (siM (sfM v 10 g2) 11 (I (s + (S t - t)))) 12 (I (if S t = -1 then -1 else if c < S t - t then S t - t else c))) (I x) (I y) (I m) (I p) (I w) (I (t + 1)) := by
      show mM_layWaits_13 NF _ _ _ _ _ _ _ _ = _
      unfold mM_layWaits_13 mM_layWaits_90
      simp only [nm]
      rw [if_neg (by rw [I_le (by omega) (by omega) (by omega) (by omega)]; omega), h12, if_neg (by rw [show (-1 : Int32) = I (-1) from rfl, I_eq (by omega) (by omega) (by omega) (by omega)]; omega), f3, bp_some]
      simp only [k11, k12, I_sub, I_add, show I t + 1 = I (t + 1) from I_add t 1]
      by_cases q : S t = -1
      · rw [if_pos q, if_neg (by rw [q]; decide)]
        rfl
      · rw [if_neg q, if_pos (by rw [show (-1 : Int32) = I (-1) from rfl, I_eq (by omega) (by omega) (by omega) (by omega)]; exact q)]
        by_cases q3 : c < S t - t
        · rw [if_pos q3, if_neg (by rw [I_le (by omega) (by omega) (by omega) (by omega)]; omega)]
        · rw [if_neg q3, if_pos (by rw [I_le (by omega) (by omega) (by omega) (by omega)]; omega)]
    have hVW : ∀ a b, VW v (siM (siM (sfM v 10 g2) 11 a) 12 b) := fun a b => (VW_sf v g2).trans ((VW_si _ (.inl rfl) _).trans (VW_si _ (.inr rfl) _))
    have l11 : ∀ a b, (siM (siM (sfM v 10 g2) 11 a) 12 b).1 11 = a := fun a b => (siM_ne (by omega)).trans (siM_g _ _ _)
    have l12 : ∀ a b, (siM (siM (sfM v 10 g2) 11 a) 12 b).1 12 = b := fun a b => siM_g _ _ _
    rw [X, e1, e2]
    by_cases q : S t = -1
    · rw [if_pos q, if_pos q, if_pos q]
      obtain ⟨f, rfl⟩ : ∃ g, f = g + 1 := ⟨f - 1, by omega⟩
      refine ⟨_, s + (S t - t), ?_, hVW (I (s + (S t - t))) (I (-1)), l12 _ _, l11 _ _, .inl rfl⟩
      show mM_layWaits_13 NF _ _ _ _ _ _ _ _ = _
      unfold mM_layWaits_13 mM_layWaits_99
      rw [l12]
      split
      · rfl
      · rw [if_pos (show I (-1) = (-1 : Int32) from rfl)]
    · rw [if_neg q, if_neg q, if_neg q]
      obtain ⟨v', s', i1, i2, i3, i4, i5⟩ := ih f (t + 1) (if c < S t - t then S t - t else c) (s + (S t - t)) _ (by omega) (by omega) (by omega) (by split <;> omega) (by split <;> omega) ((hVW (I (s + (S t - t))) (I (if c < S t - t then S t - t else c))).mst hM) (l11 _ _) (l12 _ _)
      exact ⟨v', s', i1, (hVW _ _).trans i2, i3, i4, i5⟩
theorem m_layWaits {v : MSt} {rw : Int → Int} {n fr wo sk se p w x y m : Int} {S : Int → Int} (hM : Mst v rw n fr wo sk se) (hSok : Sok S) (p1 : 1 ≤ p) (p2 : p ≤ 9) (w1 : 1 ≤ w) (w2 : w ≤ 9) (x1 : 0 ≤ x) (x2 : x < 8) (y1 : 0 ≤ y) (y2 : y < 8) (m1 : 0 ≤ m) (m2 : m ≤ 60) (hS : ∀ t, 0 ≤ t → t < m → S t = soo (arr p (Pw rw) (Lw wo sk se fr rw p w) n.toNat x t) y) : ∃ (v' : MSt) (s' : Int), mM_layWaits NF v (I x) (I y) (I m) (I p) (I w) = some v' ∧ VW v v' ∧ v'.1 12 = I (lw S m.toNat 0 0) ∧ v'.1 11 = I s' ∧ (lw S m.toNat 0 0 = -1 ∨ s' = sw S m.toNat 0 0) := by
  have hb := NF_big
  have hVW : VW v (siM (siM v 11 (I 0)) 12 (I 0)) := (VW_si _ (.inl rfl) _).trans (VW_si _ (.inr rfl) _)
  obtain ⟨v', s', i1, i2, i3, i4, i5⟩ := m_lw13 hSok p1 p2 w1 w2 x1 x2 y1 y2 m2 hS m.toNat NF 0 0 0 (siM (siM v 11 (I 0)) 12 (I 0)) (by omega) (by omega) (by omega) (by omega) (by omega) (hVW.mst hM) ((siM_ne (by omega)).trans (siM_g _ _ _)) (siM_g _ _ _)
  refine ⟨v', s', ?_, hVW.trans i2, i3, i4, i5⟩
  unfold mM_layWaits
  simp only [nm]
  exact i1
theorem Sok_G {G : Int → Int → Int} {p n y z x : Int} {P : Int → Int} {L : Int → Int → Int} (hG : GP G p n y z P L 0) (x1 : 0 ≤ x) (x2 : x < 8) {m : Int} (hz : z = m - 1 + 400) (m2 : m ≤ 60) : Sok (fun t => if t < m then (if G x t ≤ t + 400 then G x t else -1) else -1) := by
  intro t t1 t2
  show (if t < m then (if G x t ≤ t + 400 then G x t else -1) else -1) = -1 ∨ _ ∧ _
  by_cases q : t < m
  · simp only [if_pos q]
    have := ((hG t t1 (by omega)).2.2 x x1 x2).1
    split
    · right
      omega
    · exact .inl rfl
  · rw [if_neg q]
    exact .inl rfl
/-- waits of class and reference, over one table -/
theorem waits_of {u : USt} {v : MSt} {rw : Int → Int} {n fr se p w x y m : Int} (hT : Tab u 0 (m - 1 + 400) p n n (Pw rw) (Lw (-1) (-1) se fr rw p w)) (hM : Mst v rw n fr (-1) (-1) se) (p1 : 1 ≤ p) (p2 : p ≤ 9) (w1 : 1 ≤ w) (w2 : w ≤ 9) (x1 : 0 ≤ x) (x2 : x < 8) (y1 : 0 ≤ y) (y2 : y < 8) (m1 : 1 ≤ m) (m2 : m ≤ 60) : ∃ (u' : USt) (v' : MSt) (s' : Int) (S : Int → Int), Sok S ∧ mX9_foresee NF u (I y) = some u' ∧ KF u u' ∧ mX9_longestWait NF u' (I x) (I m) = some (I (lw S m.toNat 0 0)) ∧ mX9_waitsTogether NF u' (I x) (I m) = some (I (sw S m.toNat 0 0)) ∧ mM_layWaits NF v (I x) (I y) (I m) (I p) (I w) = some v' ∧ VW v v' ∧ v'.1 12 = I (lw S m.toNat 0 0) ∧ v'.1 11 = I s' ∧ (lw S m.toNat 0 0 = -1 ∨ s' = sw S m.toNat 0 0) := by
  have hb := NF_big
  have hnet := Net_w (p := p) (w := w) hM
  have n1 := hM.2.2.2.2.1
  have n2 := hM.2.2.2.2.2.1
  obtain ⟨u', G, a1, a2, a3, a4⟩ := x_foresee hT hnet n1 n2 (by omega) (by omega) p1 p2 y1 y2
  have hSok := Sok_G a3 x1 x2 rfl m2
  have hS : ∀ t, 0 ≤ t → t < m → (fun t => if t < m then (if G x t ≤ t + 400 then G x t else -1) else -1) t = (if G x t ≤ t + 400 then G x t else -1) := fun t t1 t2 => if_pos t2
  have hS2 : ∀ t, 0 ≤ t → t < m → (fun t => if t < m then (if G x t ≤ t + 400 then G x t else -1) else -1) t = soo (arr p (Pw rw) (Lw (-1) (-1) se fr rw p w) n.toNat x t) y := fun t t1 t2 => by
    rw [hS t t1 t2, soo_G a3 hnet n1 t1 (by omega) (by omega) p1 p2 x1 x2 y1 y2]
  generalize (fun t => if t < m then (if G x t ≤ t + 400 then G x t else -1) else -1) = S at *
  have u16 : u'.1 16 = I (m - 1 + 400) := by rw [a1.1]; exact hT.2.1
  have hw : ∀ t, 0 ≤ t → t < m → mX9_waitFrom NF u' (I x) (I t) = some (I (if S t = -1 then -1 else S t - t)) := fun t t1 t2 => by
    have hg := ((a3 t t1 (by omega)).2.2 x x1 x2).1
    exact x_wait NF u16 a2 x1 x2 t1 (by omega) (by omega) (by omega) hg.1 hg.2 (hS t t1 t2)
  obtain ⟨v', s', i1, i2, i3, i4, i5⟩ := m_layWaits hM hSok p1 p2 w1 w2 x1 x2 y1 y2 (by omega) m2 hS2
  exact ⟨u', v', s', S, hSok, a4, a1, x_long hSok m2 hw m.toNat NF 0 0 (by omega) (by omega) (by omega) (by omega) (by omega), x_sum hSok m2 hw m.toNat NF 0 0 (by omega) (by omega) (by omega), i1, i2, i3, i4, i5⟩
theorem pu_worst : Pu_worst InvX := by
  intro u b v a1 a2 a3 a4 a5 h
  have hh := h
  obtain ⟨x, rfl, x1, x2⟩ := I_ex a1
  obtain ⟨y, rfl, y1, y2⟩ := I_ex a2
  obtain ⟨m, rfl, m1, m2⟩ := I_ex a3
  obtain ⟨p, rfl, p1, p2⟩ := I_ex a4
  obtain ⟨w, rfl, w1, w2⟩ := I_ex a5
  obtain ⟨n, rw, fr, se, hX, hM, hs, hP, hN, hG⟩ := h
  unfold mX10_worst mX10_worst_14 mX10_worst_34 mM_worst mM_worst_14 mM_worst_39
  rw [x_isIslet NF x1 x2, x_isIslet NF y1 y2, x_isManyStarts NF m1 m2, x_isCarrier NF w1 w2 p1 p2, m_isIslet NF x1 x2, m_isIslet NF y1 y2, m_isCarrier NF w1 w2 p1 p2]
  simp (disch := omega) only [Option.bind_some, I_lit, bo_0, Decidable.not_not, I_neg, I_64, Lg_lit, m_in, I_sub, I_add, nm]
  by_cases q1 : 0 ≤ x ∧ x < 8
  · rw [if_neg (not_not_intro q1), if_neg (not_not_intro q1)]
    by_cases q2 : 0 ≤ y ∧ y < 8
    · rw [if_pos q2, if_pos q2]
      by_cases q3 : 1 ≤ m ∧ m ≤ 60
      · rw [if_neg (not_not_intro q3), if_neg (not_not_intro q3)]
        by_cases q4 : (1 ≤ p ∧ p ≤ 9) ∧ 1 ≤ w ∧ w ≤ 9
        · rw [if_pos q4, if_pos q4]
          obtain ⟨u6, e1, e2, e3⟩ := x_openTable (s := 0) (sp := m - 1 + 400) (w := w) se hX hs (by omega) (by omega) (by omega) (by omega) q4.1.1 q4.1.2 q4.2.1 q4.2.2
          obtain ⟨u', v', s', S, c1, c2, c3, c4, c5, c6, c7, c8, c9, c10⟩ := waits_of e3 hM q4.1.1 q4.1.2 q4.2.1 q4.2.2 q1.1 q1.2 q2.1 q2.2 q3.1 q3.2
          rw [e1, Option.bind_some, c2, Option.bind_some, c4, Option.bind_some, c6, Option.bind_some, c8]
          exact ⟨_, _, _, rfl, rfl, hh.keep (e2.trans c3.kx) c7.km⟩
        · rw [if_neg q4, if_neg q4]
          exact ⟨_, _, _, rfl, rfl, hh⟩
      · rw [if_pos q3, if_pos q3]
        exact ⟨_, _, _, rfl, rfl, hh⟩
    · rw [if_neg q2, if_neg q2]
      exact ⟨_, _, _, rfl, rfl, hh⟩
  · rw [if_pos q1, if_pos q1]
    exact ⟨_, _, _, rfl, rfl, hh⟩
theorem Lg_32 {z : Int} (h1 : -2147483648 ≤ z) (h2 : z < 2147483648) : (Lg z).toInt32 = I z := by
  apply Int32.toInt_inj.mp
  rw [Int64.toInt_toInt32, Lg_toInt (by omega) (by omega), I_toInt h1 h2]
  exact Int.bmod_eq_of_le (by omega) (by omega)
theorem pu_mean : Pu_mean InvX := by
  have hbig := NF_big
  intro u b v a1 a2 a3 a4 a5 a6 h
  have hh := h
  obtain ⟨x, rfl, x1, x2⟩ := I_ex a1
  obtain ⟨y, rfl, y1, y2⟩ := I_ex a2
  obtain ⟨m, rfl, m1, m2⟩ := I_ex a3
  obtain ⟨p, rfl, p1, p2⟩ := I_ex a4
  obtain ⟨w, rfl, w1, w2⟩ := I_ex a5
  obtain ⟨o, rfl, o1, o2⟩ := I_ex a6
  obtain ⟨n, rw, fr, se, hX, hM, hs, hP, hN, hG⟩ := h
  unfold mX10_mean mX10_mean_14 mX10_mean_45 mX10_mean_127 mM_mean mM_mean_14 mM_mean_50 mM_mean_106
  rw [x_isIslet NF x1 x2, x_isIslet NF y1 y2, x_isManyStarts NF m1 m2, x_isCarrier NF w1 w2 p1 p2, m_isIslet NF x1 x2, m_isIslet NF y1 y2, m_isCarrier NF w1 w2 p1 p2]
  simp (maxSteps := 2000000) (disch := omega) only [Option.bind_some, I_lit, bo_0, Decidable.not_not, I_neg, I_64, Lg_lit, m_in, I_sub, I_add, nm, I_lt, I_le, I_eq]
  by_cases q1 : 0 ≤ x ∧ x < 8
  · rw [if_neg (not_not_intro q1), if_neg (not_not_intro q1)]
    by_cases q2 : 0 ≤ y ∧ y < 8
    · rw [if_pos q2, if_pos q2]
      by_cases q3 : 1 ≤ m ∧ m ≤ 60
      · rw [if_neg (not_not_intro q3), if_neg (not_not_intro q3)]
        by_cases q4 : (1 ≤ p ∧ p ≤ 9) ∧ 1 ≤ w ∧ w ≤ 9
        · rw [if_neg (not_not_intro q4), if_neg (not_not_intro q4)]
          by_cases q5 : 0 ≤ o ∧ o ≤ 1
          · rw [if_neg (show ¬ o < 0 by omega), if_pos (show o ≤ 1 by omega), if_pos q5]
            obtain ⟨u6, e1, e2, e3⟩ := x_openTable (s := 0) (sp := m - 1 + 400) (w := w) se hX hs (by omega) (by omega) (by omega) (by omega) q4.1.1 q4.1.2 q4.2.1 q4.2.2
            obtain ⟨u', v', s', S, c1, c2, c3, c4, c5, c6, c7, c8, c9, c10⟩ := waits_of e3 hM q4.1.1 q4.1.2 q4.2.1 q4.2.2 q1.1 q1.2 q2.1 q2.2 q3.1 q3.2
            have hinv := hh.keep (e2.trans c3.kx) c7.km
            have hl := lw_b c1 m.toNat 0 0 (by omega) (by omega) (by omega) (by omega)
            have hsw := sw_b c1 m.toNat 0 0 (by omega) (by omega) (by omega) (by omega)
            have hiff := lw_sw c1 m.toNat 0 0 0 (by omega) (by omega) (by omega) (by omega)
            rw [e1, Option.bind_some, c2, Option.bind_some, c5, Option.bind_some, c6, Option.bind_some, c8, c9]
            generalize lw S m.toNat 0 0 = l at *
            generalize sw S m.toNat 0 0 = s at *
            by_cases q6 : l = -1
            · have q7 := hiff.1 q6
              rw [q6, q7]
              exact ⟨I (-1), u', v', if_neg (by decide), if_neg (by decide), hinv⟩
            · have q7 : ¬ s = -1 := fun g => q6 (hiff.2 g)
              have q8 : s' = s := c10.resolve_left q6
              rw [q8]
              have es : ((s.toNat : Nat) : Int) = s := by omega
              have em : ((m.toNat : Nat) : Int) = m := by omega
              have hg1 : Nat.gcd s.toNat m.toNat ≤ m.toNat := Nat.gcd_le_right _ (by omega)
              have hg2 : 0 < Nat.gcd s.toNat m.toNat := Nat.gcd_pos_of_pos_right _ (by omega)
              have X := x_gcd NF 6 NF s.toNat m.toNat 0 (by omega) (by omega) (by omega) (by omega) (by omega) (by omega)
              have Y := m_common NF (x := s.toNat) (y := m.toNat) (by omega) (by omega) (by omega)
              rw [es, em] at X Y
              have X' : mX10_sharedDivisor NF (Lg s) (Lg m) = some (Lg ((Nat.gcd s.toNat m.toNat : Nat) : Int)) := X
              generalize Nat.gcd s.toNat m.toNat = gg at *
              rw [if_pos (show ¬ I s = I (-1) by rw [I_eq (by omega) (by omega) (by omega) (by omega)]; exact q7), if_pos (show ¬ I l = I (-1) by rw [I_eq (by omega) (by omega) (by omega) (by omega)]; exact q6)]
              rw [I_64 (by omega) (by omega), X', Y, Option.bind_some, Option.bind_some, Lg_32 (by omega) (by omega), if_pos (show I 1 ≤ I ((gg : Nat) : Int) by rw [I_le (by omega) (by omega) (by omega) (by omega)]; omega)]
              by_cases q9 : o = 0
              · rw [if_neg (not_not_intro q9), if_neg (not_not_intro q9)]
                refine ⟨I s / I (gg : Int), u', v', ?_, ?_, hinv⟩
                · exact gd_pos (by rw [I_eq (by omega) (by omega) (by omega) (by omega)]; omega)
                · exact gd_pos (by rw [I_eq (by omega) (by omega) (by omega) (by omega)]; omega)
              · rw [if_pos q9, if_pos q9]
                refine ⟨I m / I (gg : Int), u', v', ?_, ?_, hinv⟩
                · exact gd_pos (by rw [I_eq (by omega) (by omega) (by omega) (by omega)]; omega)
                · exact gd_pos (by rw [I_eq (by omega) (by omega) (by omega) (by omega)]; omega)
          · rw [if_neg q5]
            refine ⟨I (-102), u, v, ?_, rfl, hh⟩
            (repeat' split) <;> first | rfl | (exfalso; omega)
        · rw [if_pos q4, if_pos q4]
          exact ⟨_, _, _, rfl, rfl, hh⟩
      · rw [if_pos q3, if_pos q3]
        exact ⟨_, _, _, rfl, rfl, hh⟩
    · rw [if_neg q2, if_neg q2]
      exact ⟨_, _, _, rfl, rfl, hh⟩
  · rw [if_pos q1, if_pos q1]
    exact ⟨_, _, _, rfl, rfl, hh⟩
