theorem nk_keep {sp p n x w y : Int} {P : Int → Int} {M : Int → Int → Int} {F F' : Int → Int → Int → Int} (hnet : Net n P M) (x1 : 0 ≤ x) (w1 : 0 ≤ w) (w2 : w < 22) (h : nk sp p n P M F x w = y) (hy : y ≠ -1) (he : F' (ac P x w) (ak x w) (aq p x w) = F (ac P x w) (ak x w) (aq p x w)) : nk sp p n P M F' x w = y := by
  have hm : 0 ≤ x % 61 ∧ x % 61 < 61 := ⟨Int.emod_nonneg _ (by omega), Int.emod_lt_of_pos _ (by omega)⟩
  unfold nk at h ⊢
  by_cases q1 : w < 10
  · rw [if_pos q1] at h ⊢
    unfold nkA at h ⊢
    have ek : ak x w = w := if_pos q1
    have eq : aq p x w = x % 61 := if_pos (by omega)
    rw [ek, eq] at he
    split at h
    · rename_i q
      rw [if_pos q]
      have hl := (hnet w w1 q.1).2 (x % 61) hm.1
      by_cases c : x / 61 = P w
      · have e : ac P x w = 0 := by
          unfold ac
          rw [if_pos q1, if_pos c]
        rw [e] at he
        by_cases d : F 0 w (x % 61) = 0
        · rw [if_pos ⟨c, d⟩] at h
          rw [if_pos ⟨c, by rw [he]; exact d⟩]
          exact h
        · rw [if_neg (fun z => d z.2), if_neg (by omega)] at h
          exact absurd h.symm hy
      · have e : ac P x w = 1 := by
          unfold ac
          rw [if_pos q1, if_neg c]
        rw [e] at he
        rw [if_neg (fun z => c z.1)] at h ⊢
        rw [he]
        exact h
    · exact absurd h.symm hy
  · rw [if_neg q1] at h ⊢
    by_cases q2 : w = 10
    · rw [if_pos q2] at h ⊢
      exact h
    · rw [if_neg q2] at h ⊢
      by_cases q3 : w < 21
      · rw [if_pos q3] at h ⊢
        unfold nkB at h ⊢
        have ek : ak x w = w - 11 := by
          unfold ak
          rw [if_neg q1, if_neg (by omega)]
        have eq : aq p x w = x % 61 - p := by
          unfold aq
          rw [if_neg (by omega), if_neg (by omega)]
        have e0 : ac P x w = if x / 61 = P (w - 11) then 1 else 0 := by
          unfold ac
          rw [if_neg q1, if_neg (by omega)]
        rw [ek, eq] at he
        split at h
        · rename_i q
          rw [if_pos q]
          have hl := (hnet (w - 11) (by omega) q.1).2 (x % 61 - p) q.2.1
          by_cases c : x / 61 = P (w - 11)
          · rw [e0, if_pos c] at he
            rw [if_neg (by omega)] at h ⊢
            rw [he]
            exact h
          · rw [e0, if_neg c] at he
            have hz : ∀ G : Int → Int → Int → Int, ¬ (x / 61 = P (w - 11) ∧ G 1 (w - 11) (x % 61 - p) ≠ 0) := fun G z => c z.1
            rw [if_neg (hz F)] at h
            rw [if_neg (hz F'), he]
            exact h
        · exact absurd h.symm hy
      · rw [if_neg q3] at h ⊢
        have e : ac P x w = 2 := by
          unfold ac
          rw [if_neg q1, if_pos (by omega)]
        have ek : ak x w = x / 61 := by
          unfold ak
          rw [if_neg q1, if_pos (by omega)]
        have eq : aq p x w = x % 61 - 1 := by
          unfold aq
          rw [if_neg (by omega), if_pos (by omega)]
        rw [e, ek, eq] at he
        rw [he]
        exact h
theorem RS_ends {sp p n i t j s i' t' j' s' c k q x x' : Int} {P : Int → Int} {M : Int → Int → Int} {F F' : Int → Int → Int → Int} (h : RS sp p n P M F i t j s c k q x) (h' : RS sp p n P M F' i' t' j' s' c k q x') : (i = i' ∧ t = t') ∨ (i = j' ∧ t = s') := by
  obtain ⟨-, h⟩ := h
  obtain ⟨-, h'⟩ := h'
  rcases h with ⟨-, a1, a2, a3, a4, -⟩ | ⟨-, a1, a2, a3, a4, -⟩ <;> rcases h' with ⟨-, b1, b2, b3, b4, -⟩ | ⟨-, b1, b2, b3, b4, -⟩
  · exact .inl ⟨a1.trans b1.symm, a2.trans b2.symm⟩
  · exact .inr ⟨a1.trans b3.symm, a2.trans b4.symm⟩
  · exact .inr ⟨a1.trans b3.symm, a2.trans b4.symm⟩
  · exact .inl ⟨a1.trans b1.symm, a2.trans b2.symm⟩
theorem RS_rng {sp p n i t j s c k q x : Int} {P : Int → Int} {M : Int → Int → Int} {F : Int → Int → Int → Int} (hnet : Net n P M) (sp2 : sp ≤ 60) (p1 : 1 ≤ p) (h : RS sp p n P M F i t j s c k q x) : 0 ≤ j ∧ j < 8 ∧ 0 ≤ s ∧ s < 61 := by
  obtain ⟨hv, h⟩ := h
  have hh : (0 ≤ ti P M c k q ∧ ti P M c k q < 8) ∧ (0 ≤ hi P M c k q ∧ hi P M c k q < 8) ∧ (0 ≤ q ∧ q < 61) ∧ 0 ≤ ht p c q ∧ ht p c q < 61 := by
    rcases (show c = 0 ∨ c = 1 ∨ c = 2 by omega) with rfl | rfl | rfl
    · have hn := hnet k (by omega) (by omega)
      have hl := hn.2 q (by omega)
      have e1 : ti P M 0 k q = P k := rfl
      have e2 : hi P M 0 k q = M k q := rfl
      have e3 : ht p 0 q = q + p := rfl
      omega
    · have hn := hnet k (by omega) (by omega)
      have hl := hn.2 q (by omega)
      have e1 : ti P M 1 k q = M k q := rfl
      have e2 : hi P M 1 k q = P k := rfl
      have e3 : ht p 1 q = q + p := rfl
      omega
    · have e1 : ti P M 2 k q = k := rfl
      have e2 : hi P M 2 k q = k := rfl
      have e3 : ht p 2 q = q + 1 := rfl
      omega
  omega
theorem Shu_CL {sp p n g f : Int} {P : Int → Int} {M : Int → Int → Int} {F : Int → Int → Int → Int} {T : Int → Int} (hnet : Net n P M) (n2 : n ≤ 10) (sp2 : sp ≤ 60) (p1 : 1 ≤ p) (f1 : 0 ≤ f) (f2 : f < 8) (g1 : 0 ≤ g) (g2 : g < 8) (h : CL (nk sp p n P M F) g (f * 61 + 0) T) : Shu sp p n P M f g F := by
  refine ⟨fun i t => if (0 ≤ i ∧ i < 8) ∧ (0 ≤ t ∧ t < 61) ∧ 0 < T (i * 61 + t) then 1 else 0, ?_, fun t => ?_, fun i t => ?_, fun i t j s c k q x hr hx => ?_⟩
  · exact if_pos ⟨⟨f1, f2⟩, ⟨by omega, by omega⟩, h.1⟩
  · apply if_neg
    intro z
    have a := (h.2 (g * 61 + t) (by omega) (by omega) z.2.2).1
    omega
  · show (if _ then (1 : Int) else 0) = 0 ∨ (if _ then (1 : Int) else 0) = 1
    split
    · exact .inr rfl
    · exact .inl rfl
  · have hi : (0 ≤ i ∧ i < 8) ∧ (0 ≤ t ∧ t < 61) ∧ 0 < T (i * 61 + t) := by
      apply Classical.byContradiction
      intro z
      have hx' : (if (0 ≤ i ∧ i < 8) ∧ (0 ≤ t ∧ t < 61) ∧ 0 < T (i * 61 + t) then (1 : Int) else 0) = 1 := hx
      rw [if_neg z] at hx'
      omega
    obtain ⟨w, w1, w2, w3⟩ := rs_nk hnet n2 sp2 p1 hi.1.1 hi.1.2 hi.2.1.1 hi.2.1.2 hr
    have hj := RS_rng hnet sp2 p1 hr
    have a := (h.2 (i * 61 + t) (by omega) (by omega) hi.2.2).2 w w1 w2
    rw [w3] at a
    have b := a.resolve_left (by omega)
    exact if_pos ⟨⟨hj.1, hj.2.1⟩, ⟨hj.2.2.1, hj.2.2.2⟩, b.2.2⟩
theorem TS.nn {ts : Int} {T : Int → Int} (h : TS ts T) (h0 : ∀ x, 0 ≤ x → x < 488 → 0 ≤ T x) : 0 ≤ ts := by
  have a : sN 488 (fun _ => 0) ≤ sN 488 T := sN_le 488 (fun i i1 i2 => h0 i i1 i2)
  rw [sN_c, Int.mul_zero] at a
  unfold TS at h
  rw [h]
  exact a
theorem x_findPath {u : USt} {s sp p n B f g : Int} {P : Int → Int} {L : Int → Int → Int} {F : Int → Int → Int → Int} {T : Int → Int} (hT : Tab u s sp p n n P L) (hnet : Net n P L) (hC : FC u F) (hF : FV sp p n (Mr L s) B F) (hB : B ≤ 1000000) (n1 : 0 ≤ n) (n2 : n ≤ 10) (s1 : 0 ≤ s) (sp1 : 0 ≤ sp) (sp2 : sp ≤ 60) (p1 : 1 ≤ p) (p2 : p ≤ 9) (f1 : 0 ≤ f) (f2 : f < 8) (g1 : 0 ≤ g) (g2 : g < 8) (hfg : f ≠ g) (h21 : ∀ x, 0 ≤ x → x < 488 → u.2 21 x.toNat = I (T x) ∧ 0 ≤ T x ∧ T x ≤ 22) : ∃ (len' : Int) (u' : USt) (T' O' Q' : Int → Int), mX1_findPath NF u (I f) (I g) = some (I len', u') ∧ KQ u u' ∧ R3 u' T' O' Q' ∧ PI (nk sp p n P (Mr L s) F) (f * 61 + 0) len' T' O' Q' ∧ ((len' = 0 ∧ ((∀ x, 0 ≤ x → x < 488 → T x = 0) → CL (nk sp p n P (Mr L s) F) g (f * 61 + 0) T')) ∨ (0 < len' ∧ Q' (len' - 1) / 61 = g)) := by
  have hb := NF_big
  obtain ⟨g0, a1, a2⟩ := x_fill NF u (a := 22) (len := 488) rfl rfl (by omega) (by omega) 0
  have hk1 := KQ_sf u (k := 22) g0 (.inr (.inl rfl))
  have hR0 : R3 (sfX u 22 g0) T (fun _ => 0) (fun x => (u.2 23 x.toNat).toInt) := by
    intro x x1 x2
    refine ⟨?_, ?_, ?_⟩
    · rw [sfX_ne (by omega)]
      exact (h21 x x1 x2).1
    · rw [sfX_g]
      exact a1 _ (by omega)
    · rw [sfX_ne (by omega)]
      exact I_of _
  have hR1 := (hR0.q (y := 0) (by omega) (f * 61 + 0)).o (y := f * 61 + 0) (by omega) 1
  have hk := hk1.trans ((KQ_sa (sfX u 22 g0) (k := 23) (0 : Int).toNat (I (f * 61 + 0)) (.inr (.inr rfl))).trans (KQ_sa _ (k := 22) (f * 61 + 0).toNat (I 1) (.inr (.inl rfl))))
  obtain ⟨ts, hts⟩ : ∃ ts, TS ts T := ⟨_, rfl⟩
  have htn := hts.nn (fun x x1 x2 => (h21 x x1 x2).2.1)
  have hq0 : ∀ z : Int → Int, fup z 0 (f * 61 + 0) 0 = f * 61 + 0 := fun z => fup_eq _ _ _
  have hPI : PI (nk sp p n P (Mr L s) F) (f * 61 + 0) 1 T (fup (fun _ => 0) (f * 61 + 0) 1) (fup (fun x => (u.2 23 x.toNat).toInt) 0 (f * 61 + 0)) := by
    refine ⟨fun x x1 x2 => (h21 x x1 x2).2, fun x x1 x2 => ?_, fun j j1 j2 => ?_, fun x x1 x2 hx => ?_, fun i j i1 ij j2 => by omega, fun _ => hq0 _, fun j j1 j2 => by omega, ?_⟩
    · unfold fup
      split
      · exact .inr rfl
      · exact .inl rfl
    · have : j = 0 := by omega
      subst this
      rw [hq0, fup_eq]
      exact ⟨by omega, by omega, rfl⟩
    · refine ⟨0, by omega, by omega, ?_⟩
      rw [hq0]
      apply Classical.byContradiction
      intro z
      rw [fup_ne (fun e => z e.symm)] at hx
      omega
    · rw [sN_up (by omega) (by omega), sN_c]
      rfl
  have hDI : (∀ x, 0 ≤ x → x < 488 → T x = 0) → DI (nk sp p n P (Mr L s) F) g (f * 61 + 0) 1 T (fup (fun _ => 0) (f * 61 + 0) 1) (fup (fun x => (u.2 23 x.toNat).toInt) 0 (f * 61 + 0)) := by
    intro h0
    refine ⟨⟨by omega, by omega, .inr (fup_eq _ _ _)⟩, fun x hx => ?_⟩
    have hx0 := h0 x hx.1 hx.2.1
    have ho : fup (fun _ => 0) (f * 61 + 0) 1 x = 1 := hx.2.2.resolve_left (by omega)
    have hxs : x = f * 61 + 0 := by
      apply Classical.byContradiction
      intro z
      rw [fup_ne z] at ho
      omega
    refine ⟨fun w w1 w2 => by omega, fun z => by omega, fun z => by omega⟩
  obtain ⟨len', u', T', O', Q', i1, i2, i3, i4, i5⟩ := fp_loop hnet hF hB n1 n2 s1 sp1 sp2 p1 p2 g1 g2 (∀ x, 0 ≤ x → x < 488 → T x = 0) 22000 NF 1 0 ts _ T _ _ (by omega) hts (by omega) (by omega) (by omega) (by omega) (hk.tab hT n2) (hk.fc hC) hR1 hPI hDI
  refine ⟨len', u', T', O', Q', ?_, hk.trans i2, i3, i4, i5⟩
  unfold mX1_findPath
  rw [a2, Option.bind_some, show (0 : Int32) = I 0 from rfl, x_knot NF f1 f2 (by omega) (by omega), Option.bind_some, wrX_23 (by omega) (by omega), nm_eq, rdX_23 (by omega) (by omega), saX_g, ud_eq, wrX_22 (by omega) (by omega), nm_eq]
  exact i1
