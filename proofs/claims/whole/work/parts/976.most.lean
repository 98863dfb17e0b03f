theorem sw34 {s sp p n B len : Int} {P : Int → Int} {L : Int → Int → Int} {T O Q : Int → Int} {x2 x3 x4 x5 : Int32} (k6 : USt → Int32 → Int32 → Int32 → Int32 → Option (Int32 × USt)) (hnet : Net n P L) (n1 : 0 ≤ n) (n2 : n ≤ 10) (s1 : 0 ≤ s) (sp1 : 0 ≤ sp) (sp2 : sp ≤ 60) (p1 : 1 ≤ p) (p2 : p ≤ 9) (l1 : 1 ≤ len) (l2 : len ≤ 488) (hQ : ∀ j, 0 ≤ j → j < len → 0 ≤ Q j ∧ Q j < 488) (hd : ∀ i j, 0 ≤ i → i < j → j < len → Q i ≠ Q j) (hTb : ∀ j, 0 ≤ j → j + 1 < len → 0 ≤ T (Q j) ∧ T (Q j) < 22) : ∀ (d f : Nat) (k : Int) (u : USt) (F : Int → Int → Int → Int), d < f → (d : Int) = len - 1 - k → 0 ≤ k → Tab u s sp p n n P L → FC u F → FV sp p n (Mr L s) (B + k) F → R3 u T O Q → (∀ j, k ≤ j → j + 1 < len → nk sp p n P (Mr L s) F (Q j) (T (Q j)) = Q (j + 1)) → ∃ (u' : USt) (F' : Int → Int → Int → Int), mX1_sendWhilePathsAreFound_h34 NF k6 f u x2 x3 x4 x5 (I len) (I k) = k6 u' x2 x3 (x4 + 1) (x5 + 1) ∧ KS u u' ∧ FC u' F' ∧ FV sp p n (Mr L s) (B + len) F' ∧ ∀ X : Int → Int → Int, Phi sp p n P (Mr L s) X F' = Phi sp p n P (Mr L s) X F + (X (Q k / 61) (Q k % 61) - X (Q (len - 1) / 61) (Q (len - 1) % 61)) := by
  intro d
  induction d with
  | zero =>
    intro f k u F hf hdd hk hT hC hF hR hch
    obtain ⟨f, rfl⟩ : ∃ g, f = g + 1 := ⟨f - 1, by omega⟩
    have ek : k = len - 1 := by omega
    subst ek
    refine ⟨u, F, ?_, KS.refl u, hC, ?_, fun X => by omega⟩
    · show mX1_sendWhilePathsAreFound_34 NF _ _ _ _ _ _ _ _ _ = _
      unfold mX1_sendWhilePathsAreFound_34
      rw [show I (len - 1) + 1 = I (len - 1 + 1) from I_add _ 1, if_pos (by rw [I_le (by omega) (by omega) (by omega) (by omega)]; omega)]
    · intro c k t hc
      have := hF c k t hc
      exact ⟨this.1, this.2.1, by omega, this.2.2.2⟩
  | succ d ih =>
    intro f k u F hf hdd hk hT hC hF hR hch
    obtain ⟨f, rfl⟩ : ∃ g, f = g + 1 := ⟨f - 1, by omega⟩
    have hq := hQ k hk (by omega)
    have hq1 := hQ (k + 1) (by omega) (by omega)
    have ht := hTb k hk (by omega)
    have hc := hch k (Int.le_refl _) (by omega)
    have r23 := (hR k hk (by omega)).2.2
    have r21 := (hR (Q k) hq.1 hq.2).1
    obtain ⟨u1, e1, e2, e3⟩ := x_send NF hT hnet hC hF n1 n2 s1 sp1 sp2 p1 p2 hq.1 hq.2 ht.1 ht.2 (by rw [hc]; omega)
    have hrs := (nk_rs (Net_r hnet s1) sp2 p1 hq.1 hq.2 ht.1 ht.2 hc (by omega) hF).1
    have hF1 := hrs.fv hF
    obtain ⟨u', F', i1, i2, i3, i4, i5⟩ := ih f (k + 1) u1 _ (by omega) (by omega) (by omega) (e2.tab hT n2) e3 (by rw [← Int.add_assoc]; exact hF1) (e2.r3 hR) (fun j j1 j2 => by
      have hcj := hch j (by omega) j2
      have hqj := hQ j (by omega) (by omega)
      have hqj1 := hQ (j + 1) (by omega) (by omega)
      have htj := hTb j (by omega) j2
      refine nk_keep (Net_r hnet s1) hqj.1 htj.1 htj.2 hcj (by omega) (Fup_ne (fun z => ?_))
      have hrj := (nk_rs (Net_r hnet s1) sp2 p1 hqj.1 hqj.2 htj.1 htj.2 hcj (by omega) hF).1
      rw [z.1, z.2.1, z.2.2] at hrj
      have hne1 := hd k j hk (by omega) (by omega)
      have hne2 := hd k (j + 1) hk (by omega) (by omega)
      rcases RS_ends hrs hrj with ⟨z1, z2⟩ | ⟨z1, z2⟩
      · omega
      · omega)
    refine ⟨u', F', ?_, e2.trans i2, i3, i4, fun X => ?_⟩
    · show mX1_sendWhilePathsAreFound_34 NF _ _ _ _ _ _ _ _ _ = _
      unfold mX1_sendWhilePathsAreFound_34
      rw [show I k + 1 = I (k + 1) from I_add k 1, if_neg (by rw [I_le (by omega) (by omega) (by omega) (by omega)]; omega), rdX_23 hk (by omega), rdX_23 hk (by omega), r23, rdX_21 hq.1 hq.2, r21, e1, Option.bind_some]
      exact i1
    · rw [i5 X, hrs.phi n2 sp2 p1 X]
      omega
def KW (u u' : USt) : Prop := u'.1 = u.1 ∧ ∀ a, (a < 19 ∨ 23 < a) → u'.2 a = u.2 a
theorem KW.refl (u : USt) : KW u u := ⟨rfl, fun _ _ => rfl⟩
theorem KW.trans {u u' u'' : USt} (h : KW u u') (g : KW u' u'') : KW u u'' := ⟨g.1.trans h.1, fun a q => (g.2 a q).trans (h.2 a q)⟩
theorem KW.tab {u u' : USt} {s sp p n j : Int} {P : Int → Int} {L : Int → Int → Int} (h : KW u u') (hT : Tab u s sp p n j P L) (j2 : j ≤ 10) : Tab u' s sp p n j P L := hT.keep j2 h.1 (fun a q => h.2 a (by omega))
theorem KW.kx {u u' : USt} (h : KW u u') : KX u u' := ⟨fun k _ => by rw [h.1], fun a q => h.2 a (by omega)⟩
theorem KQ.kw {u u' : USt} (h : KQ u u') : KW u u' := ⟨h.1, fun a q => h.2 a (by omega) (by omega) (by omega)⟩
theorem KS.kw {u u' : USt} (h : KS u u') : KW u u' := ⟨h.1, fun a q => h.2 a (by omega) (by omega)⟩
theorem sw6 {s sp p n a g : Int} {P : Int → Int} {L : Int → Int → Int} (hnet : Net n P L) (n1 : 0 ≤ n) (n2 : n ≤ 10) (s1 : 0 ≤ s) (sp1 : 0 ≤ sp) (sp2 : sp ≤ 60) (p1 : 1 ≤ p) (p2 : p ≤ 9) (a1 : 0 ≤ a) (a2 : a < 8) (g1 : 0 ≤ g) (g2 : g < 8) (hag : a ≠ g) : ∀ (d f : Nat) (i sent v : Int) (u : USt) (F : Int → Int → Int → Int) (T : Int → Int), d < f → (d : Int) = 611 - i → 0 ≤ i → 0 ≤ v → Tab u s sp p n n P L → FC u F → FV sp p n (Mr L s) (488 * v) F → Flw sp p n P (Mr L s) a g v F → (∀ x, 0 ≤ x → x < 488 → u.2 21 x.toNat = I (T x) ∧ 0 ≤ T x ∧ T x ≤ 22) → ∃ (v' : Int) (u' : USt) (F' : Int → Int → Int → Int), mX1_sendWhilePathsAreFound_h6 NF f u (I a) (I g) (I sent) (I i) = some (I (sent + (v' - v)), u') ∧ KW u u' ∧ FC u' F' ∧ FV sp p n (Mr L s) (488 * v') F' ∧ Flw sp p n P (Mr L s) a g v' F' ∧ v ≤ v' ∧ (v' = v → i ≤ 610 → (∀ x, 0 ≤ x → x < 488 → T x = 0) → Shu sp p n P (Mr L s) a g F') := by
  have hb := NF_big
  intro d
  induction d with
  | zero =>
    intro f i sent v u F T hf hd hi hv hT hC hF hW h21
    obtain ⟨f, rfl⟩ : ∃ g, f = g + 1 := ⟨f - 1, by omega⟩
    refine ⟨v, u, F, ?_, KW.refl u, hC, hF, hW, Int.le_refl _, fun _ z => by omega⟩
    show mX1_sendWhilePathsAreFound_6 NF _ _ _ _ _ _ = _
    unfold mX1_sendWhilePathsAreFound_6 mX1_sendWhilePathsAreFound_82
    rw [show (610 : Int32) = I 610 from rfl, if_pos (by rw [I_lt (by omega) (by omega) (by omega) (by omega)]; omega), show sent + (v - v) = sent by omega]
  | succ d ih =>
    intro f i sent v u F T hf hd hi hv hT hC hF hW h21
    obtain ⟨f, rfl⟩ : ∃ g, f = g + 1 := ⟨f - 1, by omega⟩
    have hv2 := Flw_le hF hW hag
    obtain ⟨len, u2, T2, O2, Q2, j1, j2, j3, j4, j5⟩ := x_findPath hT hnet hC hF (by omega) n1 n2 s1 sp1 sp2 p1 p2 a1 a2 g1 g2 hag h21
    have hl2 := PI_len2 j4
    have heq : mX1_sendWhilePathsAreFound_h6 NF (f + 1) u (I a) (I g) (I sent) (I i) = if ¬ I len = (0 : Int32) then mX1_sendWhilePathsAreFound_h34 NF (mX1_sendWhilePathsAreFound_h6 NF f) NF u2 (I a) (I g) (I sent) (I i) (I len) 0 else some (I sent, u2) := by
      show mX1_sendWhilePathsAreFound_6 NF _ _ _ _ _ _ = _
      unfold mX1_sendWhilePathsAreFound_6 mX1_sendWhilePathsAreFound_82
      rw [show (610 : Int32) = I 610 from rfl, if_neg (by rw [I_lt (by omega) (by omega) (by omega) (by omega)]; omega), j1, bp_some]
    rw [heq]
    rcases j5 with ⟨c1, c2⟩ | ⟨c1, c2⟩
    · rw [c1, if_neg (show ¬ ¬ I 0 = (0 : Int32) from not_not_intro rfl)]
      refine ⟨v, u2, F, by rw [show sent + (v - v) = sent by omega], j2.kw, j2.fc hC, hF, hW, Int.le_refl _, fun _ _ h0 => ?_⟩
      exact Shu_CL (Net_r hnet s1) n2 sp2 p1 a1 a2 g1 g2 (c2 h0)
    · rw [if_pos (by rw [show (0 : Int32) = I 0 from rfl, I_eq (by omega) (by omega) (by omega) (by omega)]; omega)]
      have hTb : ∀ j, 0 ≤ j → j + 1 < len → 0 ≤ T2 (Q2 j) ∧ T2 (Q2 j) < 22 := fun j z1 z2 => ⟨(j4.1 (Q2 j) (j4.2.2.1 j z1 (by omega)).1 (j4.2.2.1 j z1 (by omega)).2.1).1, (j4.2.2.2.2.2.2.1 j z1 z2).1⟩
      obtain ⟨u3, F3, e1, e2, e3, e4, e5⟩ := sw34 (B := 488 * v) (x2 := I a) (x3 := I g) (x4 := I sent) (x5 := I i) (mX1_sendWhilePathsAreFound_h6 NF f) hnet n1 n2 s1 sp1 sp2 p1 p2 (by omega) hl2 (fun j z1 z2 => ⟨(j4.2.2.1 j z1 z2).1, (j4.2.2.1 j z1 z2).2.1⟩) (fun i j z1 z2 z3 => j4.2.2.2.2.1 i j z1 z2 z3) hTb (len - 1).toNat NF 0 u2 F (by omega) (by omega) (by omega) (j2.tab hT n2) (j2.fc hC) (by rw [Int.add_zero]; exact hF) j3 (fun j z1 z2 => (j4.2.2.2.2.2.2.1 j z1 z2).2)
      have hW3 : Flw sp p n P (Mr L s) a g (v + 1) F3 := by
        intro X x1 x2
        rw [e5 X, hW X x1 x2, j4.2.2.2.2.2.1 c1, c2, x2, (kn_dm (a := a) (b := 0) (by omega) (by omega)).1, (kn_dm (a := a) (b := 0) (by omega) (by omega)).2, x1]
        omega
      have hF3 : FV sp p n (Mr L s) (488 * (v + 1)) F3 := by
        intro c k t hc
        have := e4 c k t hc
        exact ⟨this.1, this.2.1, by omega, this.2.2.2⟩
      have e21 : u3.2 21 = u2.2 21 := e2.2 21 (by omega) (by omega)
      obtain ⟨v', u', F', i1, i2, i3, i4, i5, i6, i7⟩ := ih f (i + 1) (sent + 1) (v + 1) u3 F3 T2 (by omega) (by omega) (by omega) (by omega) (e2.tab (j2.tab hT n2) n2) e3 hF3 hW3 (fun x z1 z2 => by
        rw [e21]
        exact ⟨(j3 x z1 z2).1, j4.1 x z1 z2⟩)
      refine ⟨v', u', F', ?_, (j2.kw.trans e2.kw).trans i2, i3, i4, i5, by omega, fun z => by omega⟩
      rw [show (0 : Int32) = I 0 from rfl, e1, show I sent + 1 = I (sent + 1) from I_add sent 1, show I i + 1 = I (i + 1) from I_add i 1, i1, show sent + 1 + (v' - (v + 1)) = sent + (v' - v) by omega]
theorem most55 {s sp p n a g : Int} {P : Int → Int} {L : Int → Int → Int} (hnet : Net n P L) (n1 : 0 ≤ n) (n2 : n ≤ 10) (s1 : 0 ≤ s) (sp1 : 0 ≤ sp) (sp2 : sp ≤ 60) (p1 : 1 ≤ p) (p2 : p ≤ 9) (a1 : 0 ≤ a) (a2 : a < 8) (g1 : 0 ≤ g) (g2 : g < 8) (hag : a ≠ g) : ∀ (d f : Nat) (r v : Int) (u : USt) (F : Int → Int → Int → Int), d + 1 < f → (d : Int) = 611 - r → 0 ≤ r → r ≤ v → Tab u s sp p n n P L → FC u F → FV sp p n (Mr L s) (488 * v) F → Flw sp p n P (Mr L s) a g v F → ∃ (v' : Int) (u' : USt) (F' : Int → Int → Int → Int), mX1_most_h55 NF f u (I a) (I g) (I v) (I 1) (I r) = some (I v', u') ∧ KW u u' ∧ FV sp p n (Mr L s) (488 * v') F' ∧ Flw sp p n P (Mr L s) a g v' F' ∧ Shu sp p n P (Mr L s) a g F' := by
  have hb := NF_big
  intro d
  induction d with
  | zero =>
    intro f r v u F hf hd hr hrv hT hC hF hW
    have hv2 := Flw_le hF hW hag
    omega
  | succ d ih =>
    intro f r v u F hf hd hr hrv hT hC hF hW
    obtain ⟨f, rfl⟩ : ∃ g, f = g + 1 := ⟨f - 1, by omega⟩
    have hv2 := Flw_le hF hW hag
    obtain ⟨g0, z1, z2⟩ := x_fill NF u (a := 21) (len := 488) rfl rfl (by omega) (by omega) 0
    have hk0 := KQ_sf u (k := 21) g0 (.inl rfl)
    obtain ⟨v', u4, F', i1, i2, i3, i4, i5, i6, i7⟩ := sw6 hnet n1 n2 s1 sp1 sp2 p1 p2 a1 a2 g1 g2 hag 611 NF 0 0 v (sfX u 21 g0) F (fun _ => 0) (by omega) (by omega) (by omega) (by omega) (hk0.tab hT n2) (hk0.fc hC) hF hW (fun x x1 x2 => by
      rw [sfX_g]
      exact ⟨z1 _ (by omega), by omega, by omega⟩)
    have hv3 := Flw_le i4 i5 hag
    have heq : mX1_most_h55 NF (f + 1) u (I a) (I g) (I v) (I 1) (I r) = if I (0 + (v' - v)) ≤ (0 : Int32) then mX1_most_h55 NF f u4 (I a) (I g) (I v') (I 0) (I (r + 1)) else mX1_most_h55 NF f u4 (I a) (I g) (I v') (I 1) (I (r + 1)) := by
      show mX1_most_55 NF _ _ _ _ _ _ _ = _
      unfold mX1_most_55 mX1_most_110 mX1_most_102 mX1_sendWhilePathsAreFound
      rw [show (610 : Int32) = I 610 from rfl, if_neg (by rw [I_lt (by omega) (by omega) (by omega) (by omega)]; omega), if_neg (by decide), z2, Option.bind_some]
      rw [show mX1_sendWhilePathsAreFound_h6 NF NF (sfX u 21 g0) (I a) (I g) 0 0 = some (I (0 + (v' - v)), u4) from i1, bp_some, nm_eq, I_add, show v + (0 + (v' - v)) = v' by omega, show I r + 1 = I (r + 1) from I_add r 1]
      rfl
    rw [heq]
    by_cases c : v' = v
    · rw [if_pos (by rw [show (0 : Int32) = I 0 from rfl, I_le (by omega) (by omega) (by omega) (by omega)]; omega)]
      obtain ⟨f, rfl⟩ : ∃ g, f = g + 1 := ⟨f - 1, by omega⟩
      refine ⟨v', u4, F', ?_, hk0.kw.trans i2, i4, i5, i7 c (by omega) (fun _ _ _ => rfl)⟩
      show mX1_most_55 NF _ _ _ _ _ _ _ = _
      unfold mX1_most_55 mX1_most_110
      by_cases c2 : I 610 < I (r + 1)
      · rw [show (610 : Int32) = I 610 from rfl, if_pos c2]
      · rw [show (610 : Int32) = I 610 from rfl, if_neg c2, if_pos (show I 0 = (0 : Int32) from rfl)]
    · rw [if_neg (by rw [show (0 : Int32) = I 0 from rfl, I_le (by omega) (by omega) (by omega) (by omega)]; omega)]
      obtain ⟨v2, u', F2, k1, k2, k3⟩ := ih f (r + 1) v' u4 F' (by omega) (by omega) (by omega) (by omega) ((hk0.kw.trans i2).tab hT n2) i3 i4 i5
      exact ⟨v2, u', F2, k1, (hk0.kw.trans i2).trans k2, k3⟩
/-- the class's greatest flow -/
theorem x_most {u : USt} {s sp p n a g : Int} {P : Int → Int} {L : Int → Int → Int} (hT : Tab u s sp p n n P L) (hnet : Net n P L) (n1 : 0 ≤ n) (n2 : n ≤ 10) (s1 : 0 ≤ s) (sp1 : 0 ≤ sp) (sp2 : sp ≤ 60) (p1 : 1 ≤ p) (p2 : p ≤ 9) (a1 : 0 ≤ a) (a2 : a < 8) (g1 : 0 ≤ g) (g2 : g < 8) (hag : a ≠ g) : ∃ (v : Int) (u' : USt) (F : Int → Int → Int → Int), mX1_most NF u (I a) (I g) = some (I v, u') ∧ KW u u' ∧ FV sp p n (Mr L s) (488 * v) F ∧ Flw sp p n P (Mr L s) a g v F ∧ Shu sp p n P (Mr L s) a g F := by
  have hb := NF_big
  obtain ⟨g0, z1, z2⟩ := x_fill NF u (a := 19) (len := 610) rfl rfl (by omega) (by omega) 0
  obtain ⟨h0, w1, w2⟩ := x_fill NF (sfX u 19 g0) (a := 20) (len := 488) rfl rfl (by omega) (by omega) 0
  have hk : KW u (sfX (sfX u 19 g0) 20 h0) := ⟨rfl, fun a q => by
    rw [sfX_ne (by omega), sfX_ne (by omega)]⟩
  have hC : FC (sfX (sfX u 19 g0) 20 h0) (fun _ _ _ => 0) := by
    refine ⟨fun k t k1 k2 t1 t2 => ?_, fun i t i1 i2 t1 t2 => ?_⟩
    · rw [sfX_ne (by omega), sfX_g]
      exact z1 _ (by omega)
    · rw [sfX_g]
      exact w1 _ (by omega)
  have hF : FV sp p n (Mr L s) (488 * 0) (fun _ _ _ => 0) := fun c k t _ => ⟨Int.le_refl 0, fun _ => (show (0 : Int) ≤ 1 by decide), (show (0 : Int) ≤ 488 * 0 by decide), fun z => absurd rfl z⟩
  obtain ⟨v, u', F, i1, i2, i3⟩ := most55 hnet n1 n2 s1 sp1 sp2 p1 p2 a1 a2 g1 g2 hag 611 NF 0 0 _ _ (by omega) (by omega) (by omega) (by omega) (hk.tab hT n2) hC hF (Flw_0 sp p n P (Mr L s) a g)
  refine ⟨v, u', F, ?_, hk.trans i2, i3⟩
  unfold mX1_most mX9_span
  rw [x_isIslet NF (by omega) (by omega), Option.bind_some, bo_t (show 0 ≤ a ∧ a < 8 from ⟨a1, a2⟩), if_neg (by decide), x_isIslet NF (by omega) (by omega), Option.bind_some, bo_t (show 0 ≤ g ∧ g < 8 from ⟨g1, g2⟩), if_neg (by decide), if_neg (by rw [I_eq (by omega) (by omega) (by omega) (by omega)]; exact hag), Option.bind_some, hT.2.1, show (61 : Int32) = I 61 from rfl, if_pos (by rw [I_lt (by omega) (by omega) (by omega) (by omega)]; omega), z2, Option.bind_some, w2, Option.bind_some]
  exact i1
