theorem FV.mono {sp p n B B' : Int} {M : Int → Int → Int} {F : Int → Int → Int → Int} (h : FV sp p n M B F) (hB : B ≤ B') : FV sp p n M B' F := fun c k t hc => ⟨(h c k t hc).1, (h c k t hc).2.1, Int.le_trans (h c k t hc).2.2.1 hB, (h c k t hc).2.2.2⟩
theorem m_takeWay {sp p n B src : Int} {P : Int → Int} {M : Int → Int → Int} {F0 : Int → Int → Int → Int} {v0 : MSt} {z : Bq} (hZ : BB sp p n P M F0 src v0 z) (hnet : Net n P M) (n2 : n ≤ 10) (sp2 : sp ≤ 60) (p1 : 1 ≤ p) (s1 : 0 ≤ src) (s2 : src < 488) : ∀ (d f : Nat) (x : Int) (v : MSt) (F : Int → Int → Int → Int), 0 ≤ x → x < 488 → z.1 x ≠ -1 → z.2.2.2.1 x ≤ d → d < f → VT v0 v → FR v F → FV sp p n M (B + (487 - z.2.2.2.1 x)) F → (∀ c k q, z.2.2.2.1 (8 * q + ti P M c k q) ≤ z.2.2.2.1 x → z.2.2.2.1 (8 * ht p c q + hi P M c k q) ≤ z.2.2.2.1 x → F c k q = F0 c k q) → ∃ (v' : MSt) (F' : Int → Int → Int → Int), mM_takeWay_h2 NF f v (I src) (I x) = some v' ∧ VT v0 v' ∧ FR v' F' ∧ FV sp p n M (B + 488) F' ∧ ∀ X : Int → Int → Int, Phi sp p n P M X F' = Phi sp p n P M X F + (X (src % 8) (src / 8) - X (x % 8) (x / 8)) := by
  have stop : ∀ (f : Nat) (v : MSt) (F : Int → Int → Int → Int), VT v0 v → FR v F → FV sp p n M (B + (487 - z.2.2.2.1 src)) F → 0 ≤ z.2.2.2.1 src → ∃ (v' : MSt) (F' : Int → Int → Int → Int), mM_takeWay_h2 NF (f + 1) v (I src) (I src) = some v' ∧ VT v0 v' ∧ FR v' F' ∧ FV sp p n M (B + 488) F' ∧ ∀ X : Int → Int → Int, Phi sp p n P M X F' = Phi sp p n P M X F + (X (src % 8) (src / 8) - X (src % 8) (src / 8)) := by
    intro f v F hV hR hF h0
    refine ⟨v, F, ?_, hV, hR, hF.mono (by omega), fun X => by omega⟩
    show mM_takeWay_2 NF _ _ _ _ = _
    unfold mM_takeWay_2
    rw [if_pos rfl]
  intro d
  induction d with
  | zero =>
    intro f x v F x1 x2 hx hr hf hV hR hF hag
    obtain ⟨f, rfl⟩ : ∃ g, f = g + 1 := ⟨f - 1, by omega⟩
    obtain ⟨r1, r2, r3⟩ := hZ.2.2.1 x x1 x2 hx
    rcases hZ.2.2.2.1 x x1 x2 hx with e | ⟨e1, e2, e3⟩
    · subst e
      exact stop f v F hV hR hF r1
    · have hc := (hZ.1.2.2 x x1 x2).2.2.2
      have := hZ.2.2.1 (z.1 x) (by omega) (by omega) e1
      omega
  | succ d ih =>
    intro f x v F x1 x2 hx hr hf hV hR hF hag
    obtain ⟨f, rfl⟩ : ∃ g, f = g + 1 := ⟨f - 1, by omega⟩
    obtain ⟨r1, r2, r3⟩ := hZ.2.2.1 x x1 x2 hx
    by_cases e : x = src
    · subst e
      exact stop f v F hV hR hF r1
    · obtain ⟨e1, e2, e3⟩ := (hZ.2.2.2.1 x x1 x2 hx).resolve_left e
      have hA := hZ.1.2.2 x x1 x2
      have y1 : 0 ≤ z.1 x := by omega
      have y2 : z.1 x < 488 := hA.2.2.2.2
      have hrk := hZ.2.2.1 (z.1 x) y1 y2 e1
      have hends : ∀ {c k q δ}, RS sp p n P M F0 (z.1 x % 8) (z.1 x / 8) (x % 8) (x / 8) c k q δ → (8 * q + ti P M c k q = z.1 x ∧ 8 * ht p c q + hi P M c k q = x) ∨ (8 * q + ti P M c k q = x ∧ 8 * ht p c q + hi P M c k q = z.1 x) := by
        intro c k q δ h
        rcases h.2 with ⟨-, a1, a2, a3, a4, -⟩ | ⟨-, a1, a2, a3, a4, -⟩
        · left
          omega
        · right
          omega
      have heq : F (bc (z.2.1 x)) (bk (z.2.1 x) (z.1 x)) (bq (z.2.1 x) (z.1 x) x) = F0 (bc (z.2.1 x)) (bk (z.2.1 x) (z.1 x)) (bq (z.2.1 x) (z.1 x) x) := by
        rcases hends e3.2 with ⟨a1, a2⟩ | ⟨a1, a2⟩
        · exact hag _ _ _ (by rw [a1]; omega) (by rw [a2]; omega)
        · exact hag _ _ _ (by rw [a1]; omega) (by rw [a2]; omega)
      have hrs := e3.2.cong heq
      obtain ⟨v1, s1', s2', s3'⟩ := tw_step NF f (src := src) hR hF hnet n2 sp2 p1 s1 s2 x1 x2 y1 y2 e (by rw [hV.2 16 (by omega) (by omega) (by omega)]; exact hA.1) (by rw [hV.2 17 (by omega) (by omega) (by omega)]; exact hA.2.1) ⟨e3.1, hrs⟩
      obtain ⟨v', F', i1, i2, i3, i4, i5⟩ := ih f (z.1 x) v1 _ y1 y2 e1 (by omega) (by omega) (hV.trans s2') s3' ((hrs.fv hF).mono (by omega)) (fun c k q a1 a2 => by
        rw [Fup_ne (fun g => ?_)]
        · exact hag c k q (by omega) (by omega)
        · obtain ⟨g1, g2, g3⟩ := g
          subst g1 g2 g3
          rcases hends e3.2 with ⟨b1, b2⟩ | ⟨b1, b2⟩
          · rw [b2] at a2
            omega
          · rw [b1] at a1
            omega)
      refine ⟨v', F', by rw [s1', i1], i2, i3, i4, fun X => ?_⟩
      rw [i5 X, hrs.phi n2 sp2 p1 X]
      omega
theorem m_bfs {n fr se src m p w sp B last : Int} {rw : Int → Int} {F : Int → Int → Int → Int} (hF : FV sp p n (Mr (Lw (-1) (-1) se fr rw p w) m) B F) (hB : B ≤ 1000000) (sp1 : 0 ≤ sp) (sp2 : sp ≤ 60) (p1 : 1 ≤ p) (p2 : p ≤ 9) (w1 : 1 ≤ w) (w2 : w ≤ 9) (m1 : 0 ≤ m) (m2 : m ≤ 999) (l1 : 0 ≤ last) (l2 : last < 488) : ∀ (d f : Nat) (k : Int) (v : MSt) (z : Bq), d < f → (d : Int) = 488 - k → 0 ≤ k → Mst v rw n fr (-1) (-1) se → BB sp p n (Pw rw) (Mr (Lw (-1) (-1) se fr rw p w) m) F src v z → FR v F → (∀ j, 0 ≤ j → j < k → j < z.2.2.2.2 → Opn sp p n (Pw rw) (Mr (Lw (-1) (-1) se fr rw p w) m) F (z.2.2.1 j) z.1) → ∃ (v' : MSt) (z' : Bq), mM_oneMore_h49 NF f v (I src) (I m) (I sp) (I p) (I w) (I last) (I k) = mM_oneMore_93 NF v' (I src) (I last) ∧ BB sp p n (Pw rw) (Mr (Lw (-1) (-1) se fr rw p w) m) F src v' z' ∧ VB v v' ∧ Ex z z' ∧ (z'.1 last ≠ -1 ∨ ∀ x, 0 ≤ x → x < 488 → z'.1 x ≠ -1 → Opn sp p n (Pw rw) (Mr (Lw (-1) (-1) se fr rw p w) m) F x z'.1) := by
  have fin : ∀ (f : Nat) (k : Int) (v : MSt) (z : Bq), 0 ≤ k → k ≤ 488 → BB sp p n (Pw rw) (Mr (Lw (-1) (-1) se fr rw p w) m) F src v z → (∀ j, 0 ≤ j → j < k → j < z.2.2.2.2 → Opn sp p n (Pw rw) (Mr (Lw (-1) (-1) se fr rw p w) m) F (z.2.2.1 j) z.1) → z.2.2.2.2 ≤ k → ∃ (v' : MSt) (z' : Bq), mM_oneMore_h49 NF (f + 1) v (I src) (I m) (I sp) (I p) (I w) (I last) (I k) = mM_oneMore_93 NF v' (I src) (I last) ∧ BB sp p n (Pw rw) (Mr (Lw (-1) (-1) se fr rw p w) m) F src v' z' ∧ VB v v' ∧ Ex z z' ∧ (z'.1 last ≠ -1 ∨ ∀ x, 0 ≤ x → x < 488 → z'.1 x ≠ -1 → Opn sp p n (Pw rw) (Mr (Lw (-1) (-1) se fr rw p w) m) F x z'.1) := by
    intro f k v z k1 k2 h ho hq
    have hq2 := h.2.2.2.2.le2
    have hq0 := h.1.2.1
    refine ⟨v, z, ?_, h, VB.refl v, Ex.refl z, .inr (fun x x1 x2 hx => ?_)⟩
    · show mM_oneMore_49 NF _ _ _ _ _ _ _ _ _ = _
      unfold mM_oneMore_49
      rw [h.1.1, if_pos (by rw [I_le (by omega) (by omega) (by omega) (by omega)]; omega)]
    · obtain ⟨r1, r2, r3⟩ := h.2.2.1 x x1 x2 hx
      have := ho (z.2.2.2.1 x) r1 (by omega) r2
      rw [r3] at this
      exact this
  intro d
  induction d with
  | zero =>
    intro f k v z hf hd hk hM h hR ho
    obtain ⟨f, rfl⟩ : ∃ g, f = g + 1 := ⟨f - 1, by omega⟩
    have hq2 := h.2.2.2.2.le2
    exact fin f k v z hk (by omega) h ho (by omega)
  | succ d ih =>
    intro f k v z hf hd hk hM h hR ho
    obtain ⟨f, rfl⟩ : ∃ g, f = g + 1 := ⟨f - 1, by omega⟩
    have hq2 := h.2.2.2.2.le2
    have hq0 := h.1.2.1
    by_cases c : z.2.2.2.2 ≤ k
    · exact fin f k v z hk (by omega) h ho c
    · have hl := h.1.2.2 last l1 l2
      have hk3 := h.1.2.2 k hk (by omega)
      by_cases c2 : z.1 last = -1
      · obtain ⟨a1, a2, a3, a4⟩ := h.2.1 k hk (by omega)
        obtain ⟨v1, z1, b1, b2, b3, b4, b5⟩ := m_lookOn hM h hR hF hB sp1 sp2 p1 p2 w1 w2 m1 m2 a1 a2 a3
        obtain ⟨v', z', i1, i2, i3, i4, i5⟩ := ih f (k + 1) v1 z1 (by omega) (by omega) (by omega) (b3.mst hM) b2 (b3.fr hR) (fun j j1 j2 j3 => by
          by_cases q : j = k
          · subst q
            rw [b4.2.2 j j1 (by omega)]
            exact b5
          · rw [b4.2.2 j j1 (by omega)]
            exact fun i s c k q x hr => b4.1 _ (ho j j1 (by omega) (by omega) i s c k q x hr))
        refine ⟨v', z', ?_, i2, b3.trans i3, b4.trans i4, i5⟩
        show mM_oneMore_49 NF _ _ _ _ _ _ _ _ _ = _
        unfold mM_oneMore_49
        rw [h.1.1, if_neg (by rw [I_le (by omega) (by omega) (by omega) (by omega)]; omega), rd_I l1 (by omega) (by omega), hl.1, c2, if_neg (show ¬ ¬ I (-1) = (-1 : Int32) from not_not_intro rfl), rd_I hk (by omega) (by omega), hk3.2.2.1, b1, Option.bind_some, show I k + 1 = I (k + 1) from I_add k 1]
        exact i1
      · refine ⟨v, z, ?_, h, VB.refl v, Ex.refl z, .inl c2⟩
        show mM_oneMore_49 NF _ _ _ _ _ _ _ _ _ = _
        unfold mM_oneMore_49
        rw [h.1.1, if_neg (by rw [I_le (by omega) (by omega) (by omega) (by omega)]; omega), rd_I l1 (by omega) (by omega), hl.1, if_pos (by rw [show (-1 : Int32) = I (-1) from rfl, I_eq (by omega) (by omega) (by omega) (by omega)]; exact c2)]
def VO (v v' : MSt) : Prop := (∀ a, a ≠ 19 → v'.1 a = v.1 a) ∧ ∀ a, (a < 13 ∨ 18 < a) → v'.2.1 a = v.2.1 a
theorem VO.refl (v : MSt) : VO v v := ⟨fun _ _ => rfl, fun _ _ => rfl⟩
theorem VO.trans {v v' v'' : MSt} (h : VO v v') (g : VO v' v'') : VO v v'' := ⟨fun a q => (g.1 a q).trans (h.1 a q), fun a q => (g.2 a q).trans (h.2 a q)⟩
theorem VO.km {v v' : MSt} (h : VO v v') : KM v v' := ⟨fun k q => h.1 k (by omega), fun a q => h.2 a (by omega)⟩
theorem VO.mst {v v' : MSt} {rw : Int → Int} {n fr wo sk se : Int} (h : VO v v') (hM : Mst v rw n fr wo sk se) : Mst v' rw n fr wo sk se := hM.keep h.km (h.1 9 (by omega))
theorem VB.vo {v v' : MSt} (h : VB v v') : VO v v' := ⟨h.1, fun a q => h.2 a (by omega) (by omega) (by omega)⟩
theorem VT.vo {v v' : MSt} (h : VT v v') : VO v v' := ⟨fun a _ => by rw [h.1], fun a q => h.2 a (by omega) (by omega) (by omega)⟩
theorem Shu_bfs {sp p n f g : Int} {P : Int → Int} {M : Int → Int → Int} {F : Int → Int → Int → Int} {v : MSt} {z : Bq} (hZ : BB sp p n P M F f v z) (hnet : Net n P M) (sp1 : 0 ≤ sp) (sp2 : sp ≤ 60) (p1 : 1 ≤ p) (f1 : 0 ≤ f) (f2 : f < 8) (g1 : 0 ≤ g) (g2 : g < 8) (hf : z.1 f ≠ -1) (hl : z.1 (8 * sp + g) = -1) (ho : ∀ x, 0 ≤ x → x < 488 → z.1 x ≠ -1 → Opn sp p n P M F x z.1) : Shu sp p n P M f g F := by
  have up : ∀ (d : Nat) (t : Int), (d : Int) = sp - t → 0 ≤ t → z.1 (8 * t + g) ≠ -1 → False := by
    intro d
    induction d with
    | zero =>
      intro t hd t1 h
      rw [show t = sp by omega] at h
      exact h hl
    | succ d ih =>
      intro t hd t1 h
      apply ih (t + 1) (by omega) (by omega)
      have hdm := b_dm (a := g) (t := t) g1 g2
      have := ho (8 * t + g) (by omega) (by omega) h
      unfold Opn at this
      rw [hdm.1, hdm.2] at this
      exact this g (t + 1) 2 g t 1 ⟨.inl ⟨rfl, g1, g2, t1, by omega⟩, .inl ⟨rfl, rfl, rfl, rfl, rfl, .inl rfl⟩⟩
  have tm : ∀ x, 0 ≤ x → x < 488 → z.1 x ≠ -1 → x / 8 ≤ sp := by
    intro x x1 x2 hx
    rcases hZ.2.2.2.1 x x1 x2 hx with e | ⟨-, -, e⟩
    · omega
    · exact RS_t p1 e.2
  refine ⟨fun i t => if (0 ≤ i ∧ i < 8) ∧ (0 ≤ t ∧ t < 61) ∧ z.1 (8 * t + i) ≠ -1 then 1 else 0, ?_, fun t => ?_, fun i t => ?_, fun i t j s c k q x hr hx => ?_⟩
  · apply if_pos
    refine ⟨⟨f1, f2⟩, ⟨by omega, by omega⟩, ?_⟩
    rw [show 8 * (0 : Int) + f = f by omega]
    exact hf
  · apply if_neg
    intro h
    have a := tm (8 * t + g) (by omega) (by omega) h.2.2
    exact up (sp - t).toNat t (by omega) h.2.1.1 h.2.2
  · show (if _ then (1 : Int) else 0) = 0 ∨ (if _ then (1 : Int) else 0) = 1
    split
    · exact .inr rfl
    · exact .inl rfl
  · have hi : (0 ≤ i ∧ i < 8) ∧ (0 ≤ t ∧ t < 61) ∧ z.1 (8 * t + i) ≠ -1 := by
      apply Classical.byContradiction
      intro h
      have hx' : (if (0 ≤ i ∧ i < 8) ∧ (0 ≤ t ∧ t < 61) ∧ z.1 (8 * t + i) ≠ -1 then (1 : Int) else 0) = 1 := hx
      rw [if_neg h] at hx'
      omega
    have hj := RS_rng hnet sp2 p1 hr
    have hdm := b_dm (a := i) (t := t) hi.1.1 hi.1.2
    have := ho (8 * t + i) (by omega) (by omega) hi.2.2
    unfold Opn at this
    rw [hdm.1, hdm.2] at this
    exact if_pos ⟨⟨hj.1, hj.2.1⟩, ⟨hj.2.2.1, hj.2.2.2⟩, this j s c k q x hr⟩
theorem m_om3 {f g m sp p w : Int} (f1 : 0 ≤ f) (f2 : f < 8) (g1 : 0 ≤ g) (g2 : g < 8) (sp1 : 0 ≤ sp) (sp2 : sp ≤ 60) : ∀ (d n : Nat) (k : Int) (v : MSt) (h : Nat → Int32), d < n → (d : Int) = 488 - k → 0 ≤ k → (∀ x, 0 ≤ x → x < k → h x.toNat = I (-1)) → ∃ h' : Nat → Int32, (∀ x : Int, 0 ≤ x → x < 488 → h' x.toNat = I (-1)) ∧ mM_oneMore_h3 NF n (sfM v 16 h) (I f) (I g) (I m) (I sp) (I p) (I w) (I k) = (mM_comeTo NF (siM (sfM v 16 h') 19 0) (I f) (I f) 0).bind (fun r3 => mM_oneMore_h49 NF NF r3 (I f) (I m) (I sp) (I p) (I w) (I (8 * sp + g)) 0) := by
  intro d
  induction d with
  | zero =>
    intro n k v h hn hd hk hh
    obtain ⟨n, rfl⟩ : ∃ g, n = g + 1 := ⟨n - 1, by omega⟩
    refine ⟨h, fun x x1 x2 => hh x x1 (by omega), ?_⟩
    show mM_oneMore_3 NF _ _ _ _ _ _ _ _ _ = _
    unfold mM_oneMore_3
    rw [show (488 : Int32) = I 488 from rfl, if_pos (by rw [I_le (by omega) (by omega) (by omega) (by omega)]; omega), nm_eq, nm_eq, show (8 : Int32) = I 8 from rfl, I_mul, I_add]
  | succ d ih =>
    intro n k v h hn hd hk hh
    obtain ⟨n, rfl⟩ : ∃ g, n = g + 1 := ⟨n - 1, by omega⟩
    obtain ⟨h', i1, i2⟩ := ih n (k + 1) v (upd h k.toNat (I (-1))) (by omega) (by omega) (by omega) (fun x x1 x2 => by
      by_cases q : x = k
      · subst q
        rw [ud_eq]
      · rw [ud_ne (by omega)]
        exact hh x x1 (by omega))
    refine ⟨h', i1, ?_⟩
    rw [← i2]
    show mM_oneMore_3 NF _ _ _ _ _ _ _ _ _ = _
    unfold mM_oneMore_3
    rw [show (488 : Int32) = I 488 from rfl, if_neg (by rw [I_le (by omega) (by omega) (by omega) (by omega)]; omega), wr_I hk (by omega) (by omega), nm_eq, saM_sfM, show I k + 1 = I (k + 1) from I_add k 1]
    rfl
theorem m_oneMore {n fr se f g m p w sp B V : Int} {rw : Int → Int} {F : Int → Int → Int → Int} {v : MSt} (hM : Mst v rw n fr (-1) (-1) se) (hR : FR v F) (hF : FV sp p n (Mr (Lw (-1) (-1) se fr rw p w) m) B F) (hB : B ≤ 1000000) (hW : Flw sp p n (Pw rw) (Mr (Lw (-1) (-1) se fr rw p w) m) f g V F) (sp1 : 0 ≤ sp) (sp2 : sp ≤ 60) (p1 : 1 ≤ p) (p2 : p ≤ 9) (w1 : 1 ≤ w) (w2 : w ≤ 9) (m1 : 0 ≤ m) (m2 : m ≤ 999) (f1 : 0 ≤ f) (f2 : f < 8) (g1 : 0 ≤ g) (g2 : g < 8) : ∃ (v' : MSt) (F' : Int → Int → Int → Int), VO v v' ∧ FR v' F' ∧ FV sp p n (Mr (Lw (-1) (-1) se fr rw p w) m) (B + 488) F' ∧ ((mM_oneMore NF v (I f) (I g) (I m) (I sp) (I p) (I w) = some (0, v') ∧ Flw sp p n (Pw rw) (Mr (Lw (-1) (-1) se fr rw p w) m) f g V F' ∧ Shu sp p n (Pw rw) (Mr (Lw (-1) (-1) se fr rw p w) m) f g F') ∨ (mM_oneMore NF v (I f) (I g) (I m) (I sp) (I p) (I w) = some (1, v') ∧ Flw sp p n (Pw rw) (Mr (Lw (-1) (-1) se fr rw p w) m) f g (V + 1) F')) := by
  have hb := NF_big
  have n2 := hM.2.2.2.2.2.1
  have hnet := Net_r (Net_w (p := p) (w := w) hM) m1
  obtain ⟨h', a1, a2⟩ := m_om3 (m := m) (p := p) (w := w) f1 f2 g1 g2 sp1 sp2 488 NF 0 v (v.2.1 16) (by omega) (by omega) (by omega) (fun x x1 x2 => by omega)
  rw [sfM_self] at a2
  have hV0 : VB v (siM (sfM v 16 h') 19 (I 0)) := ⟨fun a q => siM_ne q, fun a q1 q2 q3 => sfM_ne q1⟩
  have hZ0 : BB sp p n (Pw rw) (Mr (Lw (-1) (-1) se fr rw p w) m) F f (siM (sfM v 16 h') 19 (I 0)) (fun _ => -1, fun x => (v.2.1 17 x.toNat).toInt, fun x => (v.2.1 18 x.toNat).toInt, fun _ => 0, 0) := by
    refine ⟨⟨siM_g _ _ _, Int.le_refl 0, fun x x1 x2 => ⟨?_, ?_, ?_, (show (-1 : Int) ≤ -1 by decide), (show (-1 : Int) < 488 by decide)⟩⟩, fun j j1 j2 => ?_, fun x x1 x2 hx => absurd rfl hx, fun x x1 x2 hx => absurd rfl hx, CT.zero⟩
    · show (sfM v 16 h').2.1 16 x.toNat = I (-1)
      rw [sfM_g]
      exact a1 x x1 x2
    · show (sfM v 16 h').2.1 17 x.toNat = I (v.2.1 17 x.toNat).toInt
      rw [sfM_ne (by omega)]
      exact I_of _
    · show (sfM v 16 h').2.1 18 x.toNat = I (v.2.1 18 x.toNat).toInt
      rw [sfM_ne (by omega)]
      exact I_of _
    · change j < 0 at j2
      omega
  have hc := comeTo_new NF (v := siM (sfM v 16 h') 19 (I 0)) (x := f) (y := f) (b := 0) (q := 0) f1 (by omega) (hZ0.1.2.2 f f1 (by omega)).1 (siM_g _ _ _) (by omega) (by omega)
  have hZ1 := BB_new (y := f) (b := 0) hZ0 f1 (by omega) rfl f1 (by omega) (.inl rfl)
  have hV1 := hV0.trans (VB_new (siM (sfM v 16 h') 19 (I 0)) f.toNat (0 : Int).toNat (I f) (I 0) (I f) (I (0 + 1)))
  obtain ⟨v3, z3, b1, b2, b3, b4, b5⟩ := m_bfs (last := 8 * sp + g) hF hB sp1 sp2 p1 p2 w1 w2 m1 m2 (by omega) (by omega) 488 NF 0 _ _ (by omega) (by omega) (by omega) (hV1.mst hM) hZ1 (hV1.fr hR) (fun j j1 j2 => by omega)
  have hsrc : z3.1 f ≠ -1 := by
    apply b4.1
    show fup (fun _ => -1) f f f ≠ -1
    rw [fup_eq]
    omega
  have heq : mM_oneMore NF v (I f) (I g) (I m) (I sp) (I p) (I w) = mM_oneMore_93 NF v3 (I f) (I (8 * sp + g)) := by
    unfold mM_oneMore
    rw [show mM_oneMore_h3 NF NF v (I f) (I g) (I m) (I sp) (I p) (I w) 0 = _ from a2, show mM_comeTo NF (siM (sfM v 16 h') 19 0) (I f) (I f) 0 = _ from hc, Option.bind_some]
    exact b1
  have hV3 := hV1.trans b3
  have hl := b2.1.2.2 (8 * sp + g) (by omega) (by omega)
  by_cases c : z3.1 (8 * sp + g) = -1
  · refine ⟨v3, F, hV3.vo, hV3.fr hR, hF.mono (by omega), .inl ⟨?_, hW, ?_⟩⟩
    · rw [heq]
      unfold mM_oneMore_93
      rw [rd_I (by omega) (by omega) (by omega), hl.1, c, if_neg (show ¬ ¬ I (-1) = (-1 : Int32) from not_not_intro rfl)]
    · exact Shu_bfs b2 hnet sp1 sp2 p1 f1 f2 g1 g2 hsrc c (b5.resolve_left (fun h => h c))
  · obtain ⟨r1, r2, r3⟩ := b2.2.2.1 (8 * sp + g) (by omega) (by omega) c
    have hq2 := b2.2.2.2.2.le2
    obtain ⟨v4, F4, c1, c2, c3, c4, c5⟩ := m_takeWay (B := B) b2 hnet n2 sp2 p1 f1 (by omega) 488 NF (8 * sp + g) v3 F (by omega) (by omega) c (by omega) (by omega) (VT.refl v3) (hV3.fr hR) (hF.mono (by omega)) (fun c k q _ _ => rfl)
    refine ⟨v4, F4, hV3.vo.trans c2.vo, c3, c4, .inr ⟨?_, fun X x1 x2 => ?_⟩⟩
    · rw [heq]
      unfold mM_oneMore_93 mM_takeWay
      rw [rd_I (by omega) (by omega) (by omega), hl.1, if_pos (by rw [show (-1 : Int32) = I (-1) from rfl, I_eq (by omega) (by omega) (by omega) (by omega)]; exact c), c1, Option.bind_some]
    · have e1 : f % 8 = f ∧ f / 8 = 0 := by omega
      have e2 := b_dm (a := g) (t := sp) g1 g2
      rw [c5 X, hW X x1 x2, e1.1, e1.2, e2.1, e2.2, x1, x2]
      omega
