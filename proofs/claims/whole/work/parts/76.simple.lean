theorem Xst.row {u : USt} {b : BSt} {rw : Int → Int} {n fr k : Int} (h : Xst u b rw n fr) (h1 : 0 ≤ k) (h2 : k < n) : XB b k.toNat (rowk rw k) := h.2.2.2.2.2.2.2 k h1 h2
theorem pu_blank : Pu_blank InvX := by
  intro u b v h
  obtain ⟨n, rw, fr, se, hX, hM, hs, ⟨p, p1, p2, p3, p4⟩, hN, hG⟩ := h
  refine ⟨I p, siX u 0 0, siM v 1 0, ?_, ?_, n, rw, fr, se, hX, hM, hs, ⟨0, by omega, rfl, rfl, fun j q => by omega⟩, hN, hG⟩
  · unfold mX10_blank mX6_empty bp nm
    rw [p2]
    rfl
  · unfold mM_blank nm
    rw [p3]
theorem pu_forget : Pu_forget InvX := by
  intro u b v h
  obtain ⟨n, rw, fr, se, hX, hM, hs, hP, ⟨m, m1, m2, m3, m4, m5⟩, hG⟩ := h
  refine ⟨I m, siX u 11 0, siM v 21 0, ?_, ?_, n, rw, fr, se, hX, hM, hs, hP, ⟨0, by omega, rfl, rfl, m4, fun j q => by omega⟩, hG⟩
  · unfold mX10_forget mX5_empty_6 bp nm
    rw [m2]
    rfl
  · unfold mM_forget nm
    rw [m3]
theorem pu_frost : Pu_frost InvX := by
  intro u b v a1 h ha
  obtain ⟨n, rw, fr, se, hX, hM, hs, hP, hN, hG⟩ := h
  obtain ⟨h1, h2, h3, h4, h5, h6⟩ := hX
  obtain ⟨hr, hf, hf2, hn, hn1, hn2, hr'⟩ := hM
  have ha' : a1 = I 0 ∨ a1 = I 1 := ha
  obtain ⟨z, rfl, hz⟩ : ∃ z : Int, a1 = I z ∧ (z = 0 ∨ z = 1) := by
    rcases ha' with q | q
    · exact ⟨0, q, .inl rfl⟩
    · exact ⟨1, q, .inr rfl⟩
  refine ⟨I fr, siX u 19 (I z), siM v 6 (I z), ?_, ?_, n, rw, z, se, ⟨h1, h2, h3, rfl, hz, h6⟩, ⟨hr, rfl, hz, hn, hn1, hn2, hr'⟩, hs, hP, hN, hG⟩
  · unfold mX10_frost mX10_frost_12 nm
    rw [h4]
    simp (disch := omega) only [I_lit, I_eq, gd]
    rcases hz with rfl | rfl <;> rcases h5 with rfl | rfl <;> rfl
  · unfold mM_frost mM_frost_15 nm
    rw [hf]
    simp (disch := omega) only [I_lit, I_eq]
    rcases hz with rfl | rfl <;> rcases hf2 with rfl | rfl <;> rfl
theorem x_kind (N : Nat) {b : BSt} {k : Nat} {r : Int → Int} (h : XB b k r) : vX0_kind N b k = some (I (r 0)) := by
  have hr := h.rv
  unfold vX0_kind
  rw [h.cls (fun c => if c = 1 then mX0_kind N b k else (if c = 3 then mX2_kind N b k else (if c = 4 then mX3_kind N b k else (if c = 9 then mX8_kind N b k else (none)))))]
  unfold mX0_kind mX2_kind mX3_kind mX8_kind
  simp only [cls_1 hr, cls_3 hr, cls_4 hr, cls_9 hr]
  have := hr.1
  rcases (show r 0 = 0 ∨ r 0 = 1 ∨ r 0 = 2 ∨ r 0 = 3 by omega) with q | q | q | q <;> rw [q] <;> rfl
theorem x_ends (N : Nat) {b : BSt} {k : Nat} {r : Int → Int} (h : XB b k r) : vX0_endCount N b k = some (I (r 2)) := by
  have hr := h.rv
  unfold vX0_endCount
  rw [h.cls (fun c => if c = 1 then mX0_endCount N b k else (if c = 3 then mX0_endCount N b k else (if c = 4 then mX0_endCount N b k else (if c = 9 then mX0_endCount N b k else (none)))))]
  unfold mX0_endCount
  rw [h.skip, h.ln]
  simp only [cls_1 hr, cls_3 hr, cls_4 hr, cls_9 hr]
  have := hr.1
  rcases (show r 0 = 0 ∨ r 0 = 1 ∨ r 0 = 2 ∨ r 0 = 3 by omega) with q | q | q | q <;> rw [q] <;> rfl
theorem bcl_cls {b : BSt} {k : Nat} {r : Int → Int} (h : XB b k r) {α : Type} (f : Nat → Option α) : bcl b k f = f (clsI (r 0)) := h.cls f
theorem iv_fixed {r : Int → Int} (h : Rv r) : ivFixed (clsI (r 0)) = I (bo (r 0 = 3)) := by
  unfold ivFixed
  simp only [cls_3 h]
  unfold bo
  split <;> rfl
theorem iv_swing {r : Int → Int} (h : Rv r) : ivSwinging (clsI (r 0)) = I (bo (r 0 = 2)) := by
  unfold ivSwinging
  simp only [cls_9 h]
  unfold bo
  split <;> rfl
theorem iv_frosty {r : Int → Int} (h : Rv r) : ivFrosty (clsI (r 0)) = I (bo (r 0 = 1 ∨ r 0 = 2)) := by
  unfold ivFrosty
  simp only [cls_9 h, cls_4 h]
  unfold bo
  split <;> rfl
abbrev kindOk (r : Int → Int) (y : Int) : Prop := y = 0 ∨ y = r 0 ∨ (y = 1 ∧ r 0 = 2)
theorem x_isOfKind (N : Nat) {b : BSt} {k : Nat} {r : Int → Int} (h : XB b k r) {y : Int} (h1 : 0 ≤ y) (h2 : y ≤ 3) : mX10_isOfKind N b k (I y) = some (I (bo (kindOk r y))) := by
  have hr := h.rv
  unfold mX10_isOfKind nm
  simp only [bcl_cls h, iv_fixed hr, iv_swing hr, iv_frosty hr]
  simp (disch := omega) only [I_lit, I_eq, I_toInt]
  rw [if_neg (by omega)]
  have := hr.1
  rcases (show y = 0 ∨ y = 1 ∨ y = 2 ∨ y = 3 by omega) with rfl | rfl | rfl | rfl
  · rw [if_pos rfl, bo_t (.inl rfl)]
  · rw [if_neg (by omega), if_pos rfl]
    exact (bo_g _ _).trans (by rw [bo_c (show (r 0 = 1 ∨ r 0 = 2) ↔ ((1 : Int) = 0 ∨ 1 = r 0 ∨ (1 : Int) = 1 ∧ r 0 = 2) by omega)])
  · rw [if_neg (by omega), if_neg (by omega), if_pos rfl]
    exact (bo_g _ _).trans (by rw [bo_c (show (r 0 = 2) ↔ ((2 : Int) = 0 ∨ 2 = r 0 ∨ (2 : Int) = 1 ∧ r 0 = 2) by omega)])
  · rw [if_neg (by omega), if_neg (by omega), if_neg (by omega), if_pos rfl]
    exact (bo_g _ _).trans (by rw [bo_c (show (r 0 = 3) ↔ ((3 : Int) = 0 ∨ 3 = r 0 ∨ (3 : Int) = 1 ∧ r 0 = 2) by omega)])
theorem pu_as : Pu_as InvX := by
  intro u b v a1 a2 h
  have hh := h
  obtain ⟨z, rfl, z1, z2⟩ := I_ex a1
  obtain ⟨y, rfl, y1, y2⟩ := I_ex a2
  obtain ⟨n, rw, fr, se, hX, hM, hs, hP, hN, hG⟩ := h
  have hX' := hX
  obtain ⟨h1, h2, h3, h4, h5, h6⟩ := hX
  obtain ⟨hr, hf, hf2, hn, hn1, hn2, hr'⟩ := hM
  refine ⟨if 0 ≤ z ∧ z < n then (if 0 ≤ y ∧ y ≤ 3 then (if kindOk (rowk rw z) y then I z else -1) else -102) else -101, ?_, ?_, hh⟩
  · unfold mX10_as mX10_as_20 mX10_as_46
    rw [x_isBridge NF h1 h2 h3 z1 z2, Option.bind_some]
    simp (disch := omega) only [I_lit, bo_0, Decidable.not_not, I_lt, I_le]
    by_cases q : 0 ≤ z ∧ z < n
    · rw [if_pos q, if_pos q]
      by_cases q2 : 0 ≤ y ∧ y ≤ 3
      · rw [if_neg (by omega), if_pos (by omega), if_pos q2, x_get NF hX' q.1 q.2, Option.bind_some, (hX'.row q.1 q.2).skip, x_isOfKind NF (hX'.row q.1 q.2) q2.1 q2.2, Option.bind_some]
        simp only [bo_0]
        by_cases q3 : kindOk (rowk rw z) y
        · rw [if_neg (fun g => g q3), if_pos q3]
        · rw [if_pos q3, if_neg q3]
      · rw [if_neg q2]
        (repeat' split) <;> first | rfl | (exfalso; omega)
    · rw [if_neg q, if_neg q]
  · unfold mM_as mM_as_55 mM_as_59 mM_as_60 mM_as_72
    rw [m_isBridge NF hn hn1 hn2 z1 z2, Option.bind_some]
    simp (disch := omega) only [I_lit, bo_0, Decidable.not_not, I_64, Lg_lit, m_in, Option.bind_some]
    by_cases q : 0 ≤ z ∧ z < n
    · rw [if_pos q, if_pos q]
      have hv := (hX'.row q.1 q.2).rv.1
      by_cases q2 : 0 ≤ y ∧ y ≤ 3
      · rw [if_pos q2, if_pos q2]
        simp (disch := omega) only [I_mul, rd_I, hr _ (show 0 ≤ 10 * z by omega) (by omega)]
        have e : rw (10 * z) = rowk rw z 0 := by
          unfold rowk
          congr 1
          omega
        rw [e]
        simp (disch := omega) only [I_eq, if_true, if_false]
        unfold kindOk
        (repeat' split) <;> first | rfl | (exfalso; omega)
      · rw [if_neg q2, if_neg q2]
    · rw [if_neg q, if_neg q]
def tell (fr : Int) (r : Int → Int) (y : Int) : Int := if y < 0 ∨ 12 < y ∨ y = 8 ∨ y = 9 then -102 else if y ≤ 2 then r y else if y ≤ 6 then r (y + 3) else if y = 7 then rnd fr r else if r 2 ≤ y - 10 then -1 else r (y - 7)
theorem x_told (N : Nat) {u : USt} {b : BSt} {rw : Int → Int} {n fr k : Int} (h : Xst u b rw n fr) (h1 : 0 ≤ k) (h2 : k < n) {y : Int} (y1 : -2147483648 ≤ y) (y2 : y < 2147483648) : mX10_told N u b k.toNat (I y) = some (I (tell fr (rowk rw k) y)) := by
  have hb := h.row h1 h2
  obtain ⟨-, -, -, e4, e5, -⟩ := h
  have hr := hb.rv
  have := hr.2.2.1
  by_cases q0 : y < 0 ∨ 12 < y
  · unfold mX10_told mX10_told_130 tell
    rw [I_toInt y1 y2, if_pos q0, if_pos (by omega)]
    rfl
  rcases (show y = 0 ∨ y = 1 ∨ y = 2 ∨ y = 3 ∨ y = 4 ∨ y = 5 ∨ y = 6 ∨ y = 7 ∨ y = 8 ∨ y = 9 ∨ y = 10 ∨ y = 11 ∨ y = 12 by omega) with rfl | rfl | rfl | rfl | rfl | rfl | rfl | rfl | rfl | rfl | rfl | rfl | rfl
  · change (vX0_kind N b k.toNat).bind (fun r => some r) = _
    rw [x_kind N hb]
    rfl
  · change bfi b k.toNat 0 (fun r => some r) = _
    rw [hb.f0]
    rfl
  · change (vX0_endCount N b k.toNat).bind (fun r => some r) = _
    rw [x_ends N hb]
    rfl
  · change bfi b k.toNat 1 (fun r => some r) = _
    rw [hb.f1]
    rfl
  · change bfi b k.toNat 2 (fun r => some r) = _
    rw [hb.f2]
    rfl
  · change bfi b k.toNat 5 (fun r => some r) = _
    rw [hb.f5]
    rfl
  · change bfi b k.toNat 3 (fun r => some r) = _
    rw [hb.f3]
    rfl
  · change (vX0_roundMinutes N b k.toNat (u.1 19)).bind (fun r => some r) = _
    rw [e4, xround N hb e5]
    rfl
  · rfl
  · rfl
  · change (vX0_end N b k.toNat (I 0)).bind (fun r => some r) = _
    rw [xendV N hb, xend N hb (by omega) (by omega), Option.bind_some]
    unfold tell
    congr 2
    (repeat' split) <;> first | rfl | (exfalso; omega)
  · change (vX0_end N b k.toNat (I 1)).bind (fun r => some r) = _
    rw [xendV N hb, xend N hb (by omega) (by omega), Option.bind_some]
    unfold tell
    congr 2
    (repeat' split) <;> first | rfl | (exfalso; omega)
  · change (vX0_end N b k.toNat (I 2)).bind (fun r => some r) = _
    rw [xendV N hb, xend N hb (by omega) (by omega), Option.bind_some]
    unfold tell
    congr 2
    (repeat' split) <;> first | rfl | (exfalso; omega)
theorem m_tell (N : Nat) {v : MSt} {rw : Int → Int} {n fr wo sk se k : Int} (h : Mst v rw n fr wo sk se) (h1 : 0 ≤ k) (h2 : k < n) {y : Int} (y1 : -2147483648 ≤ y) (y2 : y < 2147483648) : mM_tellAbout N v (I k) (I y) = some (I (tell fr (rowk rw k) y)) := by
  obtain ⟨hr, hf, hf2, hn, hn1, hn2, hwo, hsk, hse, hwo2, hsk2, hse2, hv⟩ := h
  have hv := hv k h1 h2
  have := hv.2.2.1
  by_cases q0 : y < 0 ∨ 12 < y
  · unfold mM_tellAbout mM_tellAbout_137 tell
    rw [I_toInt y1 y2, if_pos q0, if_pos (by omega)]
    rfl
  have A : ∀ y : Int, 0 ≤ y → y ≤ 2 → mM_tellAbout_68 N v (I k) (I y) = some (I (rowk rw k y)) := fun y _ _ => by
    unfold mM_tellAbout_68
    simp (disch := omega) only [I_lit, I_mul, I_add, rd_I, hr (10 * k + y) (by omega) (by omega)]
    rfl
  have B : ∀ y : Int, 3 ≤ y → y ≤ 6 → mM_tellAbout_80 N v (I k) (I y) = some (I (rowk rw k (y + 3))) := fun y _ _ => by
    unfold mM_tellAbout_80
    simp (disch := omega) only [I_lit, I_mul, I_add, rd_I, hr (10 * k + y + 3) (by omega) (by omega)]
    unfold rowk
    rw [Int.add_assoc]
  have C : ∀ y : Int, 10 ≤ y → y ≤ 12 → mM_tellAbout_100 N v (I k) (I y) = some (I (if rowk rw k 2 ≤ y - 10 then -1 else rowk rw k (y - 7))) := fun y _ _ => by
    unfold mM_tellAbout_100 mM_tellAbout_136
    have e2 : rw (10 * k + 2) = rowk rw k 2 := rfl
    have e3 : rw (10 * k + y - 7) = rowk rw k (y - 7) := by
      unfold rowk
      congr 1
      omega
    simp (disch := omega) only [I_lit, I_mul, I_add, I_sub, rd_I, hr (10 * k + 2) (by omega) (by omega), hr (10 * k + y - 7) (by omega) (by omega), e2, e3, I_le]
    split <;> rfl
  rcases (show y = 0 ∨ y = 1 ∨ y = 2 ∨ y = 3 ∨ y = 4 ∨ y = 5 ∨ y = 6 ∨ y = 7 ∨ y = 8 ∨ y = 9 ∨ y = 10 ∨ y = 11 ∨ y = 12 by omega) with rfl | rfl | rfl | rfl | rfl | rfl | rfl | rfl | rfl | rfl | rfl | rfl | rfl
  · exact A 0 (by omega) (by omega)
  · exact A 1 (by omega) (by omega)
  · exact A 2 (by omega) (by omega)
  · exact B 3 (by omega) (by omega)
  · exact B 4 (by omega) (by omega)
  · exact B 5 (by omega) (by omega)
  · exact B 6 (by omega) (by omega)
  · change (mM_roundOf N v (I k)).bind (fun r => some r) = _
    rw [mM_roundOf_I N hr hf hf2 h1 (by omega) hv]
    rfl
  · rfl
  · rfl
  · exact C 10 (by omega) (by omega)
  · exact C 11 (by omega) (by omega)
  · exact C 12 (by omega) (by omega)
theorem pu_about : Pu_about InvX := by
  intro u b v a1 a2 h
  have hh := h
  obtain ⟨z, rfl, z1, z2⟩ := I_ex a1
  obtain ⟨y, rfl, y1, y2⟩ := I_ex a2
  obtain ⟨n, rw, fr, se, hX, hM, hs, hP, hN, hG⟩ := h
  have hX' := hX
  have hM' := hM
  obtain ⟨h1, h2, h3, h4, h5, h6⟩ := hX
  obtain ⟨hr, hf, hf2, hn, hn1, hn2, hr'⟩ := hM
  refine ⟨if 0 ≤ z ∧ z < n then I (tell fr (rowk rw z) y) else -101, ?_, ?_, hh⟩
  · unfold mX10_about
    rw [x_isBridge NF h1 h2 h3 z1 z2, Option.bind_some]
    simp (disch := omega) only [I_lit, bo_0, Decidable.not_not]
    by_cases q : 0 ≤ z ∧ z < n
    · rw [if_pos q, if_pos q, x_get NF hX' q.1 q.2, Option.bind_some, (hX'.row q.1 q.2).skip, x_told NF hX' q.1 q.2 y1 y2]
      rfl
    · rw [if_neg q, if_neg q]
  · unfold mM_about mM_about_19
    rw [m_isBridge NF hn hn1 hn2 z1 z2, Option.bind_some]
    simp (disch := omega) only [I_lit, bo_0]
    by_cases q : 0 ≤ z ∧ z < n
    · rw [if_neg (fun g => g q), if_pos q, m_tell NF hM' q.1 q.2 y1 y2]
      rfl
    · rw [if_pos q, if_neg q]
