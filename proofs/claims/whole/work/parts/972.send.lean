def ac (P : Int → Int) (x w : Int) : Int := if w < 10 then (if x / 61 = P w then 0 else 1) else if w = 10 ∨ w = 21 then 2 else (if x / 61 = P (w - 11) then 1 else 0)
def ak (x w : Int) : Int := if w < 10 then w else if w = 10 ∨ w = 21 then x / 61 else w - 11
def aq (p x w : Int) : Int := if w ≤ 10 then x % 61 else if w = 21 then x % 61 - 1 else x % 61 - p
def ax (w : Int) : Int := if w ≤ 10 then 1 else -1
theorem kn_dm {a b : Int} (h1 : 0 ≤ b) (h2 : b < 61) : (a * 61 + b) / 61 = a ∧ (a * 61 + b) % 61 = b := by
  omega
theorem Net_r {n s : Int} {P : Int → Int} {L : Int → Int → Int} (h : Net n P L) (s1 : 0 ≤ s) : Net n P (Mr L s) := fun k k1 k2 => ⟨(h k k1 k2).1, fun t t1 => (h k k1 k2).2 (s + t) (by omega)⟩
theorem nk_rs {sp p n B x w y : Int} {P : Int → Int} {M : Int → Int → Int} {F : Int → Int → Int → Int} (hnet : Net n P M) (sp2 : sp ≤ 60) (p1 : 1 ≤ p) (x1 : 0 ≤ x) (x2 : x < 488) (w1 : 0 ≤ w) (w2 : w < 22) (h : nk sp p n P M F x w = y) (hy : y ≠ -1) (hF : FV sp p n M B F) : RS sp p n P M F (x / 61) (x % 61) (y / 61) (y % 61) (ac P x w) (ak x w) (aq p x w) (ax w) ∧ 0 ≤ y ∧ y < 488 := by
  have hi : 0 ≤ x / 61 ∧ x / 61 < 8 := ⟨Int.ediv_nonneg x1 (by omega), by omega⟩
  have hm : 0 ≤ x % 61 ∧ x % 61 < 61 := ⟨Int.emod_nonneg _ (by omega), Int.emod_lt_of_pos _ (by omega)⟩
  unfold nk at h
  by_cases q1 : w < 10
  · rw [if_pos q1] at h
    unfold nkA at h
    have ek : ak x w = w := if_pos q1
    have eq : aq p x w = x % 61 := if_pos (by omega)
    have ex : ax w = 1 := if_pos (by omega)
    split at h
    · rename_i q
      have hn := hnet w w1 q.1
      have hl := hn.2 (x % 61) hm.1
      split at h
      · rename_i c
        have e : ac P x w = 0 := by
          unfold ac
          rw [if_pos q1, if_pos c.1]
        rw [e, ek, eq, ex, ← h, (kn_dm (a := M w (x % 61)) (b := x % 61 + p) (by omega) (by omega)).1, (kn_dm (a := M w (x % 61)) (b := x % 61 + p) (by omega) (by omega)).2]
        exact ⟨⟨.inr ⟨.inl rfl, w1, q.1, hm.1, q.2.1, q.2.2⟩, .inl ⟨rfl, c.1, rfl, rfl, rfl, .inr c.2⟩⟩, by omega, by omega⟩
      · rename_i c
        split at h
        · rename_i d
          have e : ac P x w = 1 := by
            unfold ac
            rw [if_pos q1, if_neg (by omega)]
          rw [e, ek, eq, ex, ← h, (kn_dm (a := P w) (b := x % 61 + p) (by omega) (by omega)).1, (kn_dm (a := P w) (b := x % 61 + p) (by omega) (by omega)).2]
          exact ⟨⟨.inr ⟨.inr rfl, w1, q.1, hm.1, q.2.1, q.2.2⟩, .inl ⟨rfl, d.1, rfl, rfl, rfl, .inr d.2⟩⟩, by omega, by omega⟩
        · omega
    · omega
  · rw [if_neg q1] at h
    by_cases q2 : w = 10
    · rw [if_pos q2] at h
      have e : ac P x w = 2 := by
        unfold ac
        rw [if_neg q1, if_pos (.inl q2)]
      have ek : ak x w = x / 61 := by
        unfold ak
        rw [if_neg q1, if_pos (.inl q2)]
      have eq : aq p x w = x % 61 := if_pos (by omega)
      have ex : ax w = 1 := if_pos (by omega)
      split at h
      · rename_i q
        rw [e, ek, eq, ex, ← h, (kn_dm (a := x / 61) (b := x % 61 + 1) (by omega) (by omega)).1, (kn_dm (a := x / 61) (b := x % 61 + 1) (by omega) (by omega)).2]
        exact ⟨⟨.inl ⟨rfl, hi.1, hi.2, hm.1, q⟩, .inl ⟨rfl, rfl, rfl, rfl, rfl, .inl rfl⟩⟩, by omega, by omega⟩
      · omega
    · rw [if_neg q2] at h
      by_cases q3 : w < 21
      · rw [if_pos q3] at h
        unfold nkB at h
        have ek : ak x w = w - 11 := by
          unfold ak
          rw [if_neg q1, if_neg (by omega)]
        have eq : aq p x w = x % 61 - p := by
          unfold aq
          rw [if_neg (by omega), if_neg (by omega)]
        have ex : ax w = -1 := if_neg (by omega)
        have e0 : ac P x w = if x / 61 = P (w - 11) then 1 else 0 := by
          unfold ac
          rw [if_neg q1, if_neg (by omega)]
        split at h
        · rename_i q
          have hn := hnet (w - 11) (by omega) q.1
          have hl := hn.2 (x % 61 - p) q.2.1
          have et : x % 61 = x % 61 - p + p := by omega
          have g0 := (hF 0 (w - 11) (x % 61 - p) (.inl rfl)).1
          have g1 := (hF 1 (w - 11) (x % 61 - p) (.inr (.inl rfl))).1
          split at h
          · rename_i c
            have e : ac P x w = 0 := by
              rw [e0, if_neg (by omega)]
            rw [e, ek, eq, ex, ← h, (kn_dm (a := P (w - 11)) (b := x % 61 - p) (by omega) (by omega)).1, (kn_dm (a := P (w - 11)) (b := x % 61 - p) (by omega) (by omega)).2]
            exact ⟨⟨.inr ⟨.inl rfl, by omega, q.1, q.2.1, by omega, q.2.2.2⟩, .inr ⟨rfl, c.1, et, rfl, rfl, by omega⟩⟩, by omega, by omega⟩
          · split at h
            · rename_i d
              have e : ac P x w = 1 := by
                rw [e0, if_pos d.1]
              rw [e, ek, eq, ex, ← h, (kn_dm (a := M (w - 11) (x % 61 - p)) (b := x % 61 - p) (by omega) (by omega)).1, (kn_dm (a := M (w - 11) (x % 61 - p)) (b := x % 61 - p) (by omega) (by omega)).2]
              exact ⟨⟨.inr ⟨.inr rfl, by omega, q.1, q.2.1, by omega, q.2.2.2⟩, .inr ⟨rfl, d.1, et, rfl, rfl, by omega⟩⟩, by omega, by omega⟩
            · omega
        · omega
      · rw [if_neg q3] at h
        have e : ac P x w = 2 := by
          unfold ac
          rw [if_neg q1, if_pos (by omega)]
        have ek : ak x w = x / 61 := by
          unfold ak
          rw [if_neg q1, if_pos (by omega)]
        have eq : aq p x w = x % 61 - 1 := by
          unfold aq
          rw [if_neg (by omega), if_pos (by omega)]
        have ex : ax w = -1 := if_neg (by omega)
        split at h
        · rename_i q
          have et : x % 61 = x % 61 - 1 + 1 := by omega
          rw [e, ek, eq, ex, ← h, (kn_dm (a := x / 61) (b := x % 61 - 1) (by omega) (by omega)).1, (kn_dm (a := x / 61) (b := x % 61 - 1) (by omega) (by omega)).2]
          exact ⟨⟨(hF 2 _ _ (.inr (.inr rfl))).2.2.2 (by omega), .inr ⟨rfl, rfl, et, rfl, rfl, by omega⟩⟩, by omega, by omega⟩
        · omega
theorem rs_nk {sp p n i t j s c k q x : Int} {P : Int → Int} {M : Int → Int → Int} {F : Int → Int → Int → Int} (hnet : Net n P M) (n2 : n ≤ 10) (sp2 : sp ≤ 60) (p1 : 1 ≤ p) (i1 : 0 ≤ i) (i2 : i < 8) (t1 : 0 ≤ t) (t2 : t < 61) (h : RS sp p n P M F i t j s c k q x) : ∃ w, 0 ≤ w ∧ w < 22 ∧ nk sp p n P M F (i * 61 + t) w = j * 61 + s := by
  have hd := kn_dm (a := i) (b := t) t1 t2
  obtain ⟨hv, h⟩ := h
  have h1 : ht p 0 q = q + p ∧ ht p 1 q = q + p ∧ ht p 2 q = q + 1 := ⟨rfl, rfl, rfl⟩
  rcases (show c = 0 ∨ c = 1 ∨ c = 2 by omega) with rfl | rfl | rfl
  · have hn := hnet k (by omega) (by omega)
    have hl := hn.2 q (by omega)
    rcases h with ⟨-, e1, e2, e3, e4, e5⟩ | ⟨-, e1, e2, e3, e4, e5⟩
    · refine ⟨k, by omega, by omega, ?_⟩
      unfold nk nkA
      rw [if_pos (by omega), hd.1, hd.2, e2, if_pos (by omega), if_pos ⟨e1, e5.resolve_left (by omega)⟩, e3, e4]
      rfl
    · rw [h1.1] at e2
      refine ⟨k + 11, by omega, by omega, ?_⟩
      unfold nk nkB
      rw [if_neg (by omega), if_neg (by omega), if_pos (by omega), hd.1, hd.2, show k + 11 - 11 = k by omega, show t - p = q by omega, if_pos (by omega), if_pos ⟨e1, by omega⟩, e3, e4]
      rfl
  · have hn := hnet k (by omega) (by omega)
    have hl := hn.2 q (by omega)
    rcases h with ⟨-, e1, e2, e3, e4, e5⟩ | ⟨-, e1, e2, e3, e4, e5⟩
    · have e1' : i = M k q := e1
      refine ⟨k, by omega, by omega, ?_⟩
      unfold nk nkA
      rw [if_pos (by omega), hd.1, hd.2, e2, if_pos (by omega), if_neg (by omega), if_pos ⟨e1, e5.resolve_left (by omega)⟩, e3, e4]
      rfl
    · have e1' : i = P k := e1
      rw [h1.2.1] at e2
      refine ⟨k + 11, by omega, by omega, ?_⟩
      unfold nk nkB
      rw [if_neg (by omega), if_neg (by omega), if_pos (by omega), hd.1, hd.2, show k + 11 - 11 = k by omega, show t - p = q by omega, if_pos (by omega), if_neg (by omega), if_pos ⟨e1, by omega⟩, e3, e4]
      rfl
  · rcases h with ⟨-, e1, e2, e3, e4, e5⟩ | ⟨-, e1, e2, e3, e4, e5⟩
    · have e1' : i = k := e1
      refine ⟨10, by omega, by omega, ?_⟩
      unfold nk
      rw [if_neg (by omega), if_pos rfl, hd.1, hd.2, if_pos (by omega), e3, e4, e1', e2]
      rfl
    · have e1' : i = k := e1
      rw [h1.2.2] at e2
      refine ⟨21, by omega, by omega, ?_⟩
      unfold nk
      rw [if_neg (by omega), if_neg (by omega), if_neg (by omega), hd.1, hd.2, e1', show t - 1 = q by omega, if_pos ⟨by omega, by omega⟩, e3, e4]
      rfl
def KS (u u' : USt) : Prop := u'.1 = u.1 ∧ ∀ a, a ≠ 19 → a ≠ 20 → u'.2 a = u.2 a
theorem KS.refl (u : USt) : KS u u := ⟨rfl, fun _ _ _ => rfl⟩
theorem KS.trans {u u' u'' : USt} (h : KS u u') (g : KS u' u'') : KS u u'' := ⟨g.1.trans h.1, fun a a1 a2 => (g.2 a a1 a2).trans (h.2 a a1 a2)⟩
theorem saX_g (u : USt) (k j : Nat) (x : Int32) : (saX u k j x).2 k = upd (u.2 k) j x := vu_eq _ _ _
theorem saX_ne {u : USt} {k j a : Nat} {x : Int32} (h : a ≠ k) : (saX u k j x).2 a = u.2 a := vu_ne h
theorem KS_19 (u : USt) (j : Nat) (x : Int32) : KS u (saX u 19 j x) := ⟨rfl, fun a a1 _ => saX_ne a1⟩
theorem KS_20 (u : USt) (j : Nat) (x : Int32) : KS u (saX u 20 j x) := ⟨rfl, fun a _ a2 => saX_ne a2⟩
theorem FC.up19 {u : USt} {F : Int → Int → Int → Int} (h : FC u F) {c k t x y : Int} (hc : c = 0 ∨ c = 1) (t1 : 0 ≤ t) (t2 : t < 61) (k1 : 0 ≤ k) (hy : y = Fup F c k t x 0 k t + 2 * Fup F c k t x 1 k t) : FC (saX u 19 (k * 61 + t).toNat (I y)) (Fup F c k t x) := by
  refine ⟨fun k' t' a1 a2 a3 a4 => ?_, fun i t' a1 a2 a3 a4 => ?_⟩
  · rw [saX_g]
    by_cases q : k' = k ∧ t' = t
    · rw [q.1, q.2, ud_eq, hy]
    · rw [ud_ne (by omega), Fup_ne (fun g => q g.2), Fup_ne (fun g => q g.2)]
      exact h.1 k' t' a1 a2 a3 a4
  · rw [saX_ne (by omega), Fup_ne (by omega)]
    exact h.2 i t' a1 a2 a3 a4
theorem FC.up20 {u : USt} {F : Int → Int → Int → Int} (h : FC u F) {i t x : Int} (t1 : 0 ≤ t) (t2 : t < 61) (i1 : 0 ≤ i) : FC (saX u 20 (i * 61 + t).toNat (I (F 2 i t + x))) (Fup F 2 i t x) := by
  refine ⟨fun k' t' a1 a2 a3 a4 => ?_, fun i' t' a1 a2 a3 a4 => ?_⟩
  · rw [saX_ne (by omega), Fup_ne (by omega), Fup_ne (by omega)]
    exact h.1 k' t' a1 a2 a3 a4
  · rw [saX_g]
    by_cases q : i' = i ∧ t' = t
    · rw [q.1, q.2, ud_eq, Fup_eq]
    · rw [ud_ne (by omega), Fup_ne (fun g => q g.2)]
      exact h.2 i' t' a1 a2 a3 a4
theorem x_send (N : Nat) {u : USt} {s sp p n B x w : Int} {P : Int → Int} {L : Int → Int → Int} {F : Int → Int → Int → Int} (hT : Tab u s sp p n n P L) (hnet : Net n P L) (hC : FC u F) (hF : FV sp p n (Mr L s) B F) (n1 : 0 ≤ n) (n2 : n ≤ 10) (s1 : 0 ≤ s) (sp1 : 0 ≤ sp) (sp2 : sp ≤ 60) (p1 : 1 ≤ p) (p2 : p ≤ 9) (x1 : 0 ≤ x) (x2 : x < 488) (w1 : 0 ≤ w) (w2 : w < 22) (hy : nk sp p n P (Mr L s) F x w ≠ -1) : ∃ u', mX1_send N u (I x) (I w) = some u' ∧ KS u u' ∧ FC u' (Fup F (ac P x w) (ak x w) (aq p x w) (ax w)) := by
  have hi : 0 ≤ x / 61 ∧ x / 61 < 8 := ⟨Int.ediv_nonneg x1 (by omega), by omega⟩
  have hm : 0 ≤ x % 61 ∧ x % 61 < 61 := ⟨Int.emod_nonneg _ (by omega), Int.emod_lt_of_pos _ (by omega)⟩
  have ep : mX9_pace N u = some (I p) := by
    unfold mX9_pace
    rw [hT.2.2.1]
  unfold mX1_send mX1_send_46 mX1_send_126 mX1_send_128 mX1_send_148
  simp only [nm]
  rw [show (61 : Int32) = I 61 from rfl, I_rem x1 (by omega) (by omega) (by omega), I_div x1 (by omega) (by omega) (by omega), show (10 : Int32) = I 10 from rfl, show (21 : Int32) = I 21 from rfl, show (11 : Int32) = I 11 from rfl]
  unfold nk at hy
  by_cases q1 : w < 10
  · rw [if_pos q1] at hy
    unfold nkA at hy
    have ek : ak x w = w := if_pos q1
    have eq : aq p x w = x % 61 := if_pos (by omega)
    have ex : ax w = 1 := if_pos (by omega)
    split at hy
    · rename_i q
      have hn := hnet w w1 q.1
      have f0 := hF.b01 (.inl rfl) w (x % 61)
      have f1 := hF.b01 (.inr rfl) w (x % 61)
      rw [if_neg (by rw [I_le (by omega) (by omega) (by omega) (by omega)]; omega), I_mul, I_add, rdX_19 (by omega) (by omega), hC.1 w (x % 61) w1 q1 hm.1 hm.2, x_pivot9 N hT w1 q.1 n2 hm.1 (by omega) q.2.2, Option.bind_some, wrX_19 (by omega) (by omega), wrX_19 (by omega) (by omega), b3_x1 f0 f1, b3_x2 f0 f1]
      by_cases c : x / 61 = P w
      · have e : ac P x w = 0 := by
          unfold ac
          rw [if_pos q1, if_pos c]
        rw [if_neg (not_not_intro (by rw [c]))]
        refine ⟨_, rfl, KS_19 _ _ _, ?_⟩
        rw [e, ek, eq, ex]
        refine hC.up19 (.inl rfl) hm.1 hm.2 w1 ?_
        rw [Fup_eq, Fup_ne (by omega)]
        have : F 0 w (x % 61) = 0 := by
          apply Classical.byContradiction
          intro g
          apply hy
          have hl : Mr L s w (x % 61) ≠ P w := (hn.2 (s + x % 61) (by omega)).2.2
          rw [if_neg (fun z => g z.2), if_neg (by omega)]
        omega
      · have e : ac P x w = 1 := by
          unfold ac
          rw [if_pos q1, if_neg c]
        rw [if_pos (by rw [I_eq (by omega) (by omega) (by omega) (by omega)]; exact c)]
        refine ⟨_, rfl, KS_19 _ _ _, ?_⟩
        rw [e, ek, eq, ex]
        refine hC.up19 (.inr rfl) hm.1 hm.2 w1 ?_
        rw [Fup_eq, Fup_ne (by omega)]
        have : F 1 w (x % 61) = 0 := by
          apply Classical.byContradiction
          intro g
          apply hy
          rw [if_neg (fun z => c z.1), if_neg (fun z => g z.2)]
        omega
    · exact absurd rfl hy
  · rw [if_neg q1] at hy
    rw [if_pos (by rw [I_le (by omega) (by omega) (by omega) (by omega)]; omega)]
    by_cases q2 : w = 10
    · have e : ac P x w = 2 := by
        unfold ac
        rw [if_neg q1, if_pos (.inl q2)]
      have ek : ak x w = x / 61 := by
        unfold ak
        rw [if_neg q1, if_pos (.inl q2)]
      have eq : aq p x w = x % 61 := if_pos (by omega)
      have ex : ax w = 1 := if_pos (by omega)
      have e2 : x = x / 61 * 61 + x % 61 := by omega
      have h20 := hC.2 (x / 61) (x % 61) hi.1 hi.2 hm.1 hm.2
      rw [← e2] at h20
      rw [if_neg (not_not_intro (by rw [q2])), rdX_20 x1 x2, wrX_20 x1 x2, h20, show I (F 2 (x / 61) (x % 61)) + 1 = I (F 2 (x / 61) (x % 61) + 1) from I_add _ 1]
      refine ⟨_, rfl, KS_20 _ _ _, ?_⟩
      rw [e, ek, eq, ex]
      have := hC.up20 (i := x / 61) (t := x % 61) (x := 1) hm.1 hm.2 hi.1
      rw [← e2] at this
      exact this
    · rw [if_neg q2] at hy
      rw [if_pos (by rw [I_eq (by omega) (by omega) (by omega) (by omega)]; exact q2)]
      by_cases q3 : w < 21
      · rw [if_pos q3] at hy
        unfold nkB at hy
        have ek : ak x w = w - 11 := by
          unfold ak
          rw [if_neg q1, if_neg (by omega)]
        have eq : aq p x w = x % 61 - p := by
          unfold aq
          rw [if_neg (by omega), if_neg (by omega)]
        have ex : ax w = -1 := if_neg (by omega)
        have e0 : ac P x w = if x / 61 = P (w - 11) then 1 else 0 := by
          unfold ac
          rw [if_neg q1, if_neg (by omega)]
        split at hy
        · rename_i q
          have hn := hnet (w - 11) (by omega) q.1
          have f0 := hF.b01 (.inl rfl) (w - 11) (x % 61 - p)
          have f1 := hF.b01 (.inr rfl) (w - 11) (x % 61 - p)
          rw [if_neg (by rw [I_le (by omega) (by omega) (by omega) (by omega)]; omega), I_sub, ep, Option.bind_some, I_sub, show (0 : Int32) = I 0 from rfl, if_neg (by rw [I_lt (by omega) (by omega) (by omega) (by omega)]; omega), I_mul, I_add, rdX_19 (by omega) (by omega), hC.1 (w - 11) (x % 61 - p) (by omega) (by omega) (by omega) (by omega), x_pivot9 N hT (by omega) q.1 n2 (show 0 ≤ x % 61 - p by omega) (by omega) q.2.2.2, Option.bind_some, wrX_19 (by omega) (by omega), wrX_19 (by omega) (by omega), b3_x1 f0 f1, b3_x2 f0 f1]
          by_cases c : x / 61 = P (w - 11)
          · have e : ac P x w = 1 := by
              rw [e0, if_pos c]
            rw [if_neg (not_not_intro (by rw [c]))]
            refine ⟨_, rfl, KS_19 _ _ _, ?_⟩
            rw [e, ek, eq, ex]
            refine hC.up19 (.inr rfl) (by omega) (by omega) (by omega) ?_
            rw [Fup_eq, Fup_ne (by omega)]
            have : F 1 (w - 11) (x % 61 - p) ≠ 0 := by
              intro g
              apply hy
              have hl : Mr L s (w - 11) (x % 61 - p) ≠ P (w - 11) := (hn.2 (s + (x % 61 - p)) (by omega)).2.2
              rw [if_neg (by omega), if_neg (fun z => z.2 g)]
            omega
          · have e : ac P x w = 0 := by
              rw [e0, if_neg c]
            rw [if_pos (by rw [I_eq (by omega) (by omega) (by omega) (by omega)]; exact c)]
            refine ⟨_, rfl, KS_19 _ _ _, ?_⟩
            rw [e, ek, eq, ex]
            refine hC.up19 (.inl rfl) (by omega) (by omega) (by omega) ?_
            rw [Fup_eq, Fup_ne (by omega)]
            have : F 0 (w - 11) (x % 61 - p) ≠ 0 := by
              intro g
              apply hy
              rw [if_neg (fun z => z.2 g), if_neg (fun z => c z.1)]
            omega
        · exact absurd rfl hy
      · rw [if_neg q3] at hy
        have e : ac P x w = 2 := by
          unfold ac
          rw [if_neg q1, if_pos (by omega)]
        have ek : ak x w = x / 61 := by
          unfold ak
          rw [if_neg q1, if_pos (by omega)]
        have eq : aq p x w = x % 61 - 1 := by
          unfold aq
          rw [if_neg (by omega), if_pos (by omega)]
        have ex : ax w = -1 := if_neg (by omega)
        split at hy
        · rename_i q
          have e2 : x - 1 = x / 61 * 61 + (x % 61 - 1) := by omega
          have h20 := hC.2 (x / 61) (x % 61 - 1) hi.1 hi.2 (by omega) (by omega)
          rw [← e2] at h20
          rw [if_pos (by rw [I_le (by omega) (by omega) (by omega) (by omega)]; omega), show (0 : Int32) = I 0 from rfl, if_neg (by rw [I_le (by omega) (by omega) (by omega) (by omega)]; omega), show I x - 1 = I (x - 1) from I_sub x 1, rdX_20 (by omega) (by omega), wrX_20 (by omega) (by omega), h20, show I (F 2 (x / 61) (x % 61 - 1)) - 1 = I (F 2 (x / 61) (x % 61 - 1) + -1) from I_sub _ 1]
          refine ⟨_, rfl, KS_20 _ _ _, ?_⟩
          rw [e, ek, eq, ex]
          have := hC.up20 (i := x / 61) (t := x % 61 - 1) (x := -1) (by omega) (by omega) hi.1
          rw [← e2] at this
          exact this
        · exact absurd rfl hy
