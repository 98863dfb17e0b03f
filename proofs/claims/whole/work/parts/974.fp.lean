theorem nm_eq {α β : Type} (x : α) (k : α → Option β) : nm x k = k x := rfl
def TS (ts : Int) (T : Int → Int) : Prop := ts = sN 488 T
theorem TS.inc {ts : Int} {T : Int → Int} (h : TS ts T) {y : Int} (y1 : 0 ≤ y) (y2 : y < 488) : TS (ts + 1) (fup T y (T y + 1)) := by
  unfold TS at *
  have e := sN_up (f := T) (d := 488) (k := y) (x := T y + 1) y1 y2
  rw [e, ← h, show T y + 1 - T y = 1 by omega]
theorem TS.le {nx : Int → Int → Int} {src len ts : Int} {T O Q : Int → Int} (h : TS ts T) (hP : PI nx src len T O Q) : ts ≤ 10736 := by
  unfold TS at h
  rw [h]
  exact PI_T hP
theorem fp_eq (N n : Nat) (u : USt) (x3 x4 x5 : Int32) : mX1_findPath_h37 N (n + 1) u x3 x4 x5 = mX1_findPath_37 N (mX1_findPath_h37 N n) u x3 x4 x5 := rfl
theorem fp_loop {s sp p n B g src : Int} {P : Int → Int} {L : Int → Int → Int} {F : Int → Int → Int → Int} (hnet : Net n P L) (hF : FV sp p n (Mr L s) B F) (hB : B ≤ 1000000) (n1 : 0 ≤ n) (n2 : n ≤ 10) (s1 : 0 ≤ s) (sp1 : 0 ≤ sp) (sp2 : sp ≤ 60) (p1 : 1 ≤ p) (p2 : p ≤ 9) (g1 : 0 ≤ g) (g2 : g < 8) (Fr : Prop) : ∀ (d f : Nat) (len st ts : Int) (u : USt) (T O Q : Int → Int), 22000 ≤ d + 2 * ts + len → TS ts T → d + 2 < f → 1 ≤ len → 0 ≤ st → st + d ≤ 30000 → Tab u s sp p n n P L → FC u F → R3 u T O Q → PI (nk sp p n P (Mr L s) F) src len T O Q → (Fr → DI (nk sp p n P (Mr L s) F) g src len T O Q) → ∃ (len' : Int) (u' : USt) (T' O' Q' : Int → Int), mX1_findPath_h37 NF f u (I g) (I len) (I st) = some (I len', u') ∧ KQ u u' ∧ R3 u' T' O' Q' ∧ PI (nk sp p n P (Mr L s) F) src len' T' O' Q' ∧ ((len' = 0 ∧ (Fr → CL (nk sp p n P (Mr L s) F) g src T')) ∨ (0 < len' ∧ Q' (len' - 1) / 61 = g)) := by
  intro d
  induction d with
  | zero =>
    intro f len st ts u T O Q hm hts hf hl hs hsd hT hC hR hP hD
    have a := hts.le hP
    have b := PI_len2 hP
    omega
  | succ d ih =>
    intro f len st ts u T O Q hm hts hf hl hs hsd hT hC hR hP hD
    obtain ⟨f, rfl⟩ : ∃ g, f = g + 1 := ⟨f - 1, by omega⟩
    have hlen := PI_len2 hP
    have hq := hP.2.2.1 (len - 1) (by omega) (by omega)
    have hTb := hP.1 (Q (len - 1)) hq.1 hq.2.1
    have r23 := (hR (len - 1) (by omega) (by omega)).2.2
    have r21 := (hR (Q (len - 1)) hq.1 hq.2.1).1
    have hdiv : 0 ≤ Q (len - 1) / 61 ∧ Q (len - 1) / 61 < 8 := ⟨Int.ediv_nonneg hq.1 (by omega), by omega⟩
    have est : I st + 1 = I (st + 1) := I_add st 1
    rw [fp_eq]
    unfold mX1_findPath_37 mX1_findPath_201
    rw [show (1000000 : Int32) = I 1000000 from rfl, if_neg (by rw [I_le (by omega) (by omega) (by omega) (by omega)]; omega), if_neg (by rw [show (0 : Int32) = I 0 from rfl, I_le (by omega) (by omega) (by omega) (by omega)]; omega), show I len - 1 = I (len - 1) from I_sub len 1, rdX_23 (by omega) (by omega), r23, show (61 : Int32) = I 61 from rfl, I_div hq.1 (by omega) (by omega) (by omega)]
    by_cases c1 : Q (len - 1) / 61 = g
    · rw [if_neg (not_not_intro (by rw [c1]))]
      exact ⟨len, u, T, O, Q, rfl, KQ.refl u, hR, hP, .inr ⟨by omega, c1⟩⟩
    · rw [if_pos (by rw [I_eq (by omega) (by omega) (by omega) (by omega)]; exact c1), rdX_21 hq.1 hq.2.1, r21]
      by_cases c2 : T (Q (len - 1)) < 22
      · have INC : ∀ (Fr' : Prop), Fr' = Fr → (Fr → (nk sp p n P (Mr L s) F (Q (len - 1)) (T (Q (len - 1))) = -1 ∨ Vs T O (nk sp p n P (Mr L s) F (Q (len - 1)) (T (Q (len - 1)))))) → ∃ (len' : Int) (u' : USt) (T' O' Q' : Int → Int), mX1_findPath_161 NF (mX1_findPath_h37 NF f) u (I g) (I len) (I st) (I (Q (len - 1))) = some (I len', u') ∧ KQ u u' ∧ R3 u' T' O' Q' ∧ PI (nk sp p n P (Mr L s) F) src len' T' O' Q' ∧ ((len' = 0 ∧ (Fr → CL (nk sp p n P (Mr L s) F) g src T')) ∨ (0 < len' ∧ Q' (len' - 1) / 61 = g)) := by
          intro _ _ hn
          obtain ⟨len', u', T', O', Q', i1, i2, i3⟩ := ih f len (st + 1) (ts + 1) (saX u 21 (Q (len - 1)).toNat (I (T (Q (len - 1)) + 1))) _ O Q (by omega) (hts.inc hq.1 hq.2.1) (by omega) hl (by omega) (by omega) ((KQ_sa u _ _ (.inl rfl)).tab hT n2) ((KQ_sa u _ _ (.inl rfl)).fc hC) (hR.t hq.1 _) (PI_inc hP hl c2) (fun fr => DI_inc hP (hD fr) hl c2 (hn fr))
          refine ⟨len', u', T', O', Q', ?_, (KQ_sa u _ _ (.inl rfl)).trans i2, i3⟩
          unfold mX1_findPath_161 mX1_findPath_195
          simp only [nm]
          rw [rdX_21 hq.1 hq.2.1, wrX_21 hq.1 hq.2.1, r21, est, show I (T (Q (len - 1))) + 1 = I (T (Q (len - 1)) + 1) from I_add _ 1]
          exact i1
        rw [show (22 : Int32) = I 22 from rfl, if_pos (by rw [I_lt (by omega) (by omega) (by omega) (by omega)]; exact c2), rdX_21 hq.1 hq.2.1, r21, x_next NF hT hnet hC hF hB n1 n2 s1 sp1 sp2 p1 p2 hq.1 hq.2.1 hTb.1 c2, Option.bind_some]
        generalize hy : nk sp p n P (Mr L s) F (Q (len - 1)) (T (Q (len - 1))) = y at *
        by_cases c3 : y = -1
        · rw [if_pos (by rw [c3]; rfl)]
          exact INC Fr rfl (fun _ => .inl c3)
        · have hy2 := (nk_rs (Net_r hnet s1) sp2 p1 hq.1 hq.2.1 hTb.1 c2 hy c3 hF).2
          have r22 := (hR y hy2.1 hy2.2).2.1
          have hob := hP.2.1 y hy2.1 hy2.2
          rw [if_neg (by rw [show (-1 : Int32) = I (-1) from rfl, I_eq (by omega) (by omega) (by omega) (by omega)]; exact c3), rdX_22 hy2.1 hy2.2, r22]
          by_cases c4 : O y = 0
          · have hl2 := PI_len hP hy2.1 hy2.2 c4
            rw [if_neg (not_not_intro (by rw [c4]; rfl)), show (488 : Int32) = I 488 from rfl, if_pos (by rw [I_lt (by omega) (by omega) (by omega) (by omega)]; omega), wrX_23 (by omega) (by omega)]
            simp only [nm]
            rw [wrX_22 hy2.1 hy2.2]
            have hk := (KQ_sa u (k := 23) len.toNat (I y) (.inr (.inr rfl))).trans (KQ_sa (saX u 23 len.toNat (I y)) (k := 22) y.toNat (I 1) (.inr (.inl rfl)))
            obtain ⟨len', u', T', O', Q', i1, i2, i3⟩ := ih f (len + 1) (st + 1) ts (saX (saX u 23 len.toNat (I y)) 22 y.toNat (I 1)) T _ _ (by omega) hts (by omega) (by omega) (by omega) (by omega) (hk.tab hT n2) (hk.fc hC) ((hR.q (by omega) y).o hy2.1 1) (PI_push hP hl c2 hy2.1 hy2.2 hy c4) (fun fr => DI_push hP (hD fr) hl hy2.1 hy2.2 c4 c1)
            refine ⟨len', u', T', O', Q', ?_, hk.trans i2, i3⟩
            unfold mX1_findPath_195
            rw [est, show I len + 1 = I (len + 1) from I_add len 1]
            exact i1
          · rw [if_pos (by rw [show (0 : Int32) = I 0 from rfl, I_eq (by omega) (by omega) (by omega) (by omega)]; exact c4)]
            exact INC Fr rfl (fun _ => .inr ⟨hy2.1, hy2.2, .inr (by omega)⟩)
      · have ht : T (Q (len - 1)) = 22 := by omega
        rw [show (22 : Int32) = I 22 from rfl, if_neg (by rw [I_lt (by omega) (by omega) (by omega) (by omega)]; exact c2), wrX_22 hq.1 hq.2.1]
        rw [nm_eq]
        have hk := KQ_sa u (k := 22) (Q (len - 1)).toNat (I 0) (.inr (.inl rfl))
        have hR2 := hR.o hq.1 0
        have hP2 := PI_pop hP hl
        have hD2 := fun fr => DI_pop hP (hD fr) hl ht c1
        rw [show (-1 : Int32) = I (-1) from rfl, I_add, show len + -1 = len - 1 by omega]
        unfold mX1_findPath_195
        rw [est]
        by_cases c5 : len = 1
        · rw [show (0 : Int32) = I 0 from rfl, if_pos (by rw [I_le (by omega) (by omega) (by omega) (by omega)]; omega)]
          obtain ⟨f, rfl⟩ : ∃ g, f = g + 1 := ⟨f - 1, by omega⟩
          rw [c5] at hP2 hD2 hR2 hk ⊢
          refine ⟨0, _, T, _, Q, ?_, hk, hR2, hP2, .inl ⟨rfl, fun fr => CL_of hP2 (hD2 fr)⟩⟩
          rw [fp_eq]
          unfold mX1_findPath_37 mX1_findPath_201
          rw [show (1000000 : Int32) = I 1000000 from rfl, if_neg (by rw [I_le (by omega) (by omega) (by omega) (by omega)]; omega), if_pos (by rw [show (0 : Int32) = I 0 from rfl, I_le (by omega) (by omega) (by omega) (by omega)]; omega)]
          rfl
        · have hq2 := hP2.2.2.1 (len - 1 - 1) (by omega) (by omega)
          have r23' := (hR2 (len - 1 - 1) (by omega) (by omega)).2.2
          have r21' := (hR2 (Q (len - 1 - 1)) hq2.1 hq2.2.1).1
          have hch := hP.2.2.2.2.2.2.1 (len - 1 - 1) (by omega) (by omega)
          rw [show len - 1 - 1 + 1 = len - 1 by omega] at hch
          rw [show (0 : Int32) = I 0 from rfl, if_neg (by rw [I_le (by omega) (by omega) (by omega) (by omega)]; omega), show I (len - 1) - 1 = I (len - 1 - 1) from I_sub _ 1, rdX_23 (by omega) (by omega), r23', rdX_21 hq2.1 hq2.2.1, r21', wrX_21 hq2.1 hq2.2.1, nm_eq, show I (T (Q (len - 1 - 1))) + 1 = I (T (Q (len - 1 - 1)) + 1) from I_add _ 1]
          have hk2 := hk.trans (KQ_sa (saX u 22 (Q (len - 1)).toNat (I 0)) (k := 21) (Q (len - 1 - 1)).toNat (I (T (Q (len - 1 - 1)) + 1)) (.inl rfl))
          obtain ⟨len', u', T', O', Q', i1, i2, i3⟩ := ih f (len - 1) (st + 1) (ts + 1) _ _ _ Q (by omega) (hts.inc hq2.1 hq2.2.1) (by omega) (by omega) (by omega) (by omega) (hk2.tab hT n2) (hk2.fc hC) (hR2.t hq2.1 (T (Q (len - 1 - 1)) + 1)) (PI_inc hP2 (by omega) hch.1) (fun fr => DI_inc hP2 (hD2 fr) (by omega) hch.1 (.inr (by
            rw [hch.2]
            exact ⟨hq.1, hq.2.1, .inl (by omega)⟩)))
          exact ⟨len', u', T', O', Q', i1, hk2.trans i2, i3⟩
