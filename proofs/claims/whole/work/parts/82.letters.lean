theorem byte_eq (Y : UInt64) : (Y.toInt64 &&& 255).toInt32 = I ((Y.toNat % 256 : Nat) : Int) := by
  apply Int32.toBitVec_inj.mp
  apply BitVec.eq_of_toNat_eq
  have h := Nat.and_two_pow_sub_one_eq_mod Y.toNat 8
  have e1 : ((Y.toInt64 &&& 255).toInt32.toBitVec).toNat = Y.toNat % 256 % 2 ^ 32 := by
    rw [Int64.toBitVec_toInt32, Int64.toBitVec_and]
    rw [BitVec.signExtend_eq_setWidth_of_le _ (by decide), BitVec.toNat_setWidth]
    rw [BitVec.toNat_and]
    show (Y.toNat &&& 255) % 2 ^ 32 = _
    rw [show (255 : Nat) = 2 ^ 8 - 1 from rfl, h]
  rw [e1]
  show _ = (Int32.ofInt _).toBitVec.toNat
  rw [Int32.toBitVec_ofInt, BitVec.toNat_ofInt]
  omega
theorem byte_x (Y : UInt64) : Y.toInt64.toInt32 &&& 255 = I ((Y.toNat % 256 : Nat) : Int) := by
  rw [← byte_eq, Int64.toInt32_and]
  rfl
theorem sh_amt (i : Nat) (h : i < 8) : ((Int32.toInt64 (8 * I i)).toUInt64 &&& Int64.toUInt64 63).toNat % 64 = 8 * i := by
  rcases (show i = 0 ∨ i = 1 ∨ i = 2 ∨ i = 3 ∨ i = 4 ∨ i = 5 ∨ i = 6 ∨ i = 7 by omega) with rfl | rfl | rfl | rfl | rfl | rfl | rfl | rfl <;> decide
theorem sh_nat (Y : UInt64) {i : Nat} (h : i < 8) : (Y >>> ((Int32.toInt64 (8 * I i)).toUInt64 &&& Int64.toUInt64 63)).toNat = Y.toNat >>> (8 * i) := by
  rw [UInt64.toNat_shiftRight, sh_amt i h]
theorem sh_8 (Y : UInt64) : (Y >>> ((Int32.toInt64 8).toUInt64 &&& Int64.toUInt64 63)).toNat = Y.toNat >>> 8 := by
  rw [UInt64.toNat_shiftRight, show ((Int32.toInt64 8).toUInt64 &&& Int64.toUInt64 63).toNat % 64 = 8 by decide]
/-- the byte i of a word -/
def byt (w : Int64) (i : Nat) : Int := ((w.toUInt64.toNat >>> (8 * i) % 256 : Nat) : Int)
theorem byt_b (w : Int64) (i : Nat) : 0 ≤ byt w i ∧ byt w i ≤ 255 := by
  unfold byt
  omega
theorem x_byteOf (N : Nat) (w : Int64) {i : Nat} (h : i < 8) : mX10_byteOf N w (I i) = some (I (byt w i)) := by
  unfold mX10_byteOf byt
  rw [byte_x, sh_nat _ h]
theorem m_byte (w : Int64) {i : Nat} (h : i < 8) : Int64.toInt32 (((Int64.toUInt64 w >>> ((Int32.toInt64 (8 * I i)).toUInt64 &&& Int64.toUInt64 63)).toInt64) &&& 255) = I (byt w i) := by
  unfold byt
  rw [byte_eq, sh_nat _ h]
theorem m_lfail (N : Nat) {v : MSt} {w : Int64} : ∀ (d f : Nat) (c : Int32) (y : Int64) (i : Nat), d < f → d + i = 8 → mM_letters_h11 N f v w c 0 y (I i) = some (-102, v) := by
  intro d
  induction d with
  | zero =>
    intro f c y i hf hd
    obtain ⟨f, rfl⟩ : ∃ g, f = g + 1 := ⟨f - 1, by omega⟩
    show mM_letters_11 N _ _ _ _ _ _ _ = _
    unfold mM_letters_11
    rw [if_pos (show 8 ≤ I i by rw [show (8 : Int32) = I 8 from rfl, I_le (by omega) (by omega) (by omega) (by omega)]; omega), if_neg (by decide)]
  | succ d ih =>
    intro f c y i hf hd
    obtain ⟨f, rfl⟩ : ∃ g, f = g + 1 := ⟨f - 1, by omega⟩
    show mM_letters_11 N _ _ _ _ _ _ _ = _
    unfold mM_letters_11 mM_letters_61 mM_letters_62 mM_letters_75
    simp only [nm]
    rw [if_neg (show ¬ 8 ≤ I i by rw [show (8 : Int32) = I 8 from rfl, I_le (by omega) (by omega) (by omega) (by omega)]; omega), if_pos trivial]
    have e : I (i : Int) + 1 = I ((i + 1 : Nat) : Int) := I_add i 1
    rw [e, ih f _ _ (i + 1) (by omega) (by omega), ih f _ _ (i + 1) (by omega) (by omega)]
    split <;> rfl
theorem lt_in (N : Nat) {v : MSt} {w : Int64} : ∀ (d f f' : Nat) (c i : Nat) (e : Int) (Y : UInt64), d < f → d < f' → d + i = 8 → Y.toNat = w.toUInt64.toNat >>> (8 * i) → ((e = 0 ∧ c = i) ∨ (e = 1 ∧ c < i)) → (∀ j, j < c → 1 ≤ byt w j ∧ byt w j ≤ 126) → (mX10_lettersIn_h7 N f w (I c) (I e) (I i) = some (-102) ∧ mM_letters_h11 N f' v w (I c) 1 Y.toInt64 (I i) = some (-102, v)) ∨ (∃ k : Nat, k ≤ 8 ∧ (∀ j, j < k → 1 ≤ byt w j ∧ byt w j ≤ 126) ∧ mX10_lettersIn_h7 N f w (I c) (I e) (I i) = some (I k) ∧ mM_letters_h11 N f' v w (I c) 1 Y.toInt64 (I i) = if v.1 1 + I k ≤ 20 then mM_letters_h108 N N v w (I k) 0 else some (-104, v)) := by
  intro d
  induction d with
  | zero =>
    intro f f' c i e Y hf hf' hd hY he hc
    obtain ⟨f, rfl⟩ : ∃ g, f = g + 1 := ⟨f - 1, by omega⟩
    obtain ⟨f', rfl⟩ : ∃ g, f' = g + 1 := ⟨f' - 1, by omega⟩
    refine .inr ⟨c, by omega, hc, ?_, ?_⟩
    · show mX10_lettersIn_7 N _ _ _ _ _ = _
      unfold mX10_lettersIn_7
      rw [if_pos (show 8 ≤ I i by rw [show (8 : Int32) = I 8 from rfl, I_le (by omega) (by omega) (by omega) (by omega)]; omega)]
    · show mM_letters_11 N _ _ _ _ _ _ _ = _
      unfold mM_letters_11
      rw [if_pos (show 8 ≤ I i by rw [show (8 : Int32) = I 8 from rfl, I_le (by omega) (by omega) (by omega) (by omega)]; omega), if_pos (by decide)]
  | succ d ih =>
    intro f f' c i e Y hf hf' hd hY he hc
    obtain ⟨f, rfl⟩ : ∃ g, f = g + 1 := ⟨f - 1, by omega⟩
    obtain ⟨f', rfl⟩ : ∃ g, f' = g + 1 := ⟨f' - 1, by omega⟩
    have hb := byt_b w i
    have n8 : ¬ (8 : Int32) ≤ I i := by
      rw [show (8 : Int32) = I 8 from rfl, I_le (by omega) (by omega) (by omega) (by omega)]
      omega
    have eb : (Y.toInt64 &&& 255).toInt32 = I (byt w i) := by
      rw [byte_eq, hY]
      rfl
    have eY : (Y >>> ((Int32.toInt64 8).toUInt64 &&& Int64.toUInt64 63)).toNat = w.toUInt64.toNat >>> (8 * (i + 1)) := by
      rw [sh_8, hY, ← Nat.shiftRight_add]
      rfl
    have ei : I (i : Int) + 1 = I ((i + 1 : Nat) : Int) := I_add i 1
    have ec : I (c : Int) + 1 = I ((c + 1 : Nat) : Int) := I_add c 1
    have ec0 : I (c : Int) + 0 = I (c : Int) := by
      show I (c : Int) + I 0 = _
      rw [I_add, Int.add_zero]
    have X : mX10_lettersIn_h7 N (f + 1) w (I c) (I e) (I i) = if 126 < byt w i ∨ (e = 1 ∧ byt w i ≠ 0) then some (-102) else if byt w i = 0 then mX10_lettersIn_h7 N f w (I c) (I 1) (I ((i + 1 : Nat) : Int)) else mX10_lettersIn_h7 N f w (I ((c + 1 : Nat) : Int)) (I e) (I ((i + 1 : Nat) : Int)) := by
      show mX10_lettersIn_7 N _ _ _ _ _ = _
      unfold mX10_lettersIn_7 mX10_lettersIn_38 mX10_lettersIn_41 mX10_lettersIn_54
      rw [if_neg n8, x_byteOf N w (by omega), Option.bind_some, ei, ec]
      simp (disch := omega) only [I_lit, I_lt, I_eq]
      (repeat' split) <;> first | rfl | (exfalso; omega)
    have M : mM_letters_h11 N (f' + 1) v w (I c) 1 Y.toInt64 (I i) = if 126 < byt w i ∨ (byt w i ≠ 0 ∧ c ≠ i) then mM_letters_h11 N f' v w (if byt w i ≤ 0 then I c else I ((c + 1 : Nat) : Int)) 0 (Y >>> ((Int32.toInt64 8).toUInt64 &&& Int64.toUInt64 63)).toInt64 (I ((i + 1 : Nat) : Int)) else mM_letters_h11 N f' v w (if byt w i ≤ 0 then I c else I ((c + 1 : Nat) : Int)) 1 (Y >>> ((Int32.toInt64 8).toUInt64 &&& Int64.toUInt64 63)).toInt64 (I ((i + 1 : Nat) : Int)) := by
      show mM_letters_11 N _ _ _ _ _ _ _ = _
      unfold mM_letters_11 mM_letters_57 mM_letters_61 mM_letters_62 mM_letters_75
      simp only [nm]
      rw [if_neg n8, if_neg (show ¬ (1 : Int32) = 0 by decide), eb, ei, ec, ec0, UInt64.toUInt64_toInt64]
      by_cases q1 : 126 < byt w i
      · rw [if_pos (show (126 : Int32) < I (byt w i) by rw [show (126 : Int32) = I 126 from rfl, I_lt (by omega) (by omega) (by omega) (by omega)]; exact q1), if_pos (show 126 < byt w i ∨ (byt w i ≠ 0 ∧ c ≠ i) from Or.inl q1)]
        rw [if_neg (show ¬ I (byt w i) ≤ 0 by rw [show (0 : Int32) = I 0 from rfl, I_le (by omega) (by omega) (by omega) (by omega)]; omega), if_neg (by omega)]
      · rw [if_neg (show ¬ (126 : Int32) < I (byt w i) by rw [show (126 : Int32) = I 126 from rfl, I_lt (by omega) (by omega) (by omega) (by omega)]; exact q1)]
        by_cases q2 : byt w i = 0
        · rw [if_pos (show I (byt w i) = 0 by rw [q2]; rfl), if_neg (show ¬ (126 < byt w i ∨ (byt w i ≠ 0 ∧ c ≠ i)) by omega)]
          rw [if_pos (show I (byt w i) ≤ 0 by rw [show (0 : Int32) = I 0 from rfl, I_le (by omega) (by omega) (by omega) (by omega)]; omega), if_pos (by omega)]
        · rw [if_neg (show ¬ I (byt w i) = 0 by rw [show (0 : Int32) = I 0 from rfl, I_eq (by omega) (by omega) (by omega) (by omega)]; omega)]
          rw [if_neg (show ¬ I (byt w i) ≤ 0 by rw [show (0 : Int32) = I 0 from rfl, I_le (by omega) (by omega) (by omega) (by omega)]; omega), if_neg (show ¬ byt w i ≤ 0 by omega)]
          by_cases q3 : c = i
          · rw [if_neg (show ¬ ¬ I (c : Int) = I (i : Int) by rw [q3]; exact not_not_intro rfl), if_neg (show ¬ (126 < byt w i ∨ (byt w i ≠ 0 ∧ c ≠ i)) by omega), if_neg (show ¬ I (byt w i) ≤ 0 by rw [show (0 : Int32) = I 0 from rfl, I_le (by omega) (by omega) (by omega) (by omega)]; omega)]
          · rw [if_pos (show ¬ I (c : Int) = I (i : Int) by rw [I_eq (by omega) (by omega) (by omega) (by omega)]; omega), if_pos (show 126 < byt w i ∨ (byt w i ≠ 0 ∧ c ≠ i) by omega)]
    rw [X, M]
    by_cases q1 : 126 < byt w i ∨ (byt w i ≠ 0 ∧ c ≠ i)
    · rw [if_pos q1, if_pos (by omega), m_lfail N d f' _ _ (i + 1) (by omega) (by omega)]
      exact .inl ⟨rfl, rfl⟩
    · rw [if_neg q1, if_neg (by omega)]
      by_cases q2 : byt w i = 0
      · rw [if_pos q2, if_pos (by omega)]
        exact ih f f' c (i + 1) 1 _ (by omega) (by omega) (by omega) eY (by omega) hc
      · rw [if_neg q2, if_neg (by omega)]
        refine ih f f' (c + 1) (i + 1) e _ (by omega) (by omega) (by omega) eY (by omega) (fun j hj => ?_)
        by_cases q3 : j = c
        · subst q3
          have : j = i := by omega
          subst this
          omega
        · exact hc j (by omega)
theorem x_append (N : Nat) {u : USt} {p : Nat} (h : u.1 0 = I p) (hp : p < 20) (x : Int32) : mX6_append N u x = some (saX (siX u 0 (I ((p + 1 : Nat) : Int))) 2 p x) := by
  unfold mX6_append mX6_append_29
  simp only [nm]
  rw [h]
  show (if I 20 ≤ I (p : Int) then some u else wrX 2 (I (p : Int)) fun i5 => some (saX (siX u 0 (I (p : Int) + 1)) 2 i5 x)) = _
  rw [if_neg (by rw [I_le (by omega) (by omega) (by omega) (by omega)]; omega), wrX_2 (by omega) (by omega), show I (p : Int) + 1 = I ((p + 1 : Nat) : Int) from I_add p 1, Int.toNat_natCast]
theorem lt_add {b : BSt} {rw : Int → Int} {n fr se : Int} (hs : Shf rw n) {w : Int64} {k : Nat} (hk : k ≤ 8) (hb : ∀ j, j < k → 1 ≤ byt w j ∧ byt w j ≤ 126) : ∀ (d f f' j : Nat) (u : USt) (v : MSt) (p : Nat), d < f → d < f' → d + j = k → p + d ≤ 20 → u.1 0 = I p → v.1 1 = I p → (∀ j, j < p → ∃ c : Int, u.2 2 j = I c ∧ v.2.1 0 j = I c ∧ 1 ≤ c ∧ c ≤ 126) → Xst u b rw n fr → Mst v rw n fr (-1) (-1) se → NotesOK u v → ImgOK u v n → ∃ (r : Int32) (u1 : USt) (v1 : MSt), mX10_letters_h31 NF f u w (I k) (I j) = some (r, u1) ∧ mM_letters_h108 NF f' v w (I k) (I j) = some (r, v1) ∧ InvX u1 b v1 := by
  intro d
  induction d with
  | zero =>
    intro f f' j u v p hf hf' hd hp hu hv hc hX hM hN hG
    obtain ⟨f, rfl⟩ : ∃ g, f = g + 1 := ⟨f - 1, by omega⟩
    obtain ⟨f', rfl⟩ : ∃ g, f' = g + 1 := ⟨f' - 1, by omega⟩
    refine ⟨I p, u, v, ?_, ?_, n, rw, fr, se, hX, hM, hs, ⟨p, by omega, hu, hv, hc⟩, hN, hG⟩
    · show mX10_letters_31 NF _ _ _ _ _ = _
      unfold mX10_letters_31 mX6_size
      rw [if_pos (show I (k : Int) ≤ I (j : Int) by rw [I_le (by omega) (by omega) (by omega) (by omega)]; omega), hu]
      rfl
    · show mM_letters_108 NF _ _ _ _ _ = _
      unfold mM_letters_108
      rw [if_pos (show I (k : Int) ≤ I (j : Int) by rw [I_le (by omega) (by omega) (by omega) (by omega)]; omega), hv]
  | succ d ih =>
    intro f f' j u v p hf hf' hd hp hu hv hc hX hM hN hG
    obtain ⟨f, rfl⟩ : ∃ g, f = g + 1 := ⟨f - 1, by omega⟩
    obtain ⟨f', rfl⟩ : ∃ g, f' = g + 1 := ⟨f' - 1, by omega⟩
    have hbj := hb j (by omega)
    obtain ⟨r, u1, v1, e1, e2, e3⟩ := ih f f' (j + 1) (saX (siX u 0 (I ((p + 1 : Nat) : Int))) 2 p (I (byt w j))) (siM (saM v 0 p (I (byt w j))) 1 (I ((p + 1 : Nat) : Int))) (p + 1) (by omega) (by omega) (by omega) (by omega) rfl rfl (fun i hi => by
      show ∃ c : Int, upd (u.2 2) p (I (byt w j)) i = I c ∧ upd (v.2.1 0) p (I (byt w j)) i = I c ∧ _
      by_cases q : i = p
      · subst q
        rw [ud_eq, ud_eq]
        exact ⟨_, rfl, rfl, hbj.1, hbj.2⟩
      · rw [ud_ne q, ud_ne q]
        exact hc i (by omega)) hX hM hN hG
    refine ⟨r, u1, v1, ?_, ?_, e3⟩
    · show mX10_letters_31 NF _ _ _ _ _ = _
      unfold mX10_letters_31
      rw [if_neg (show ¬ I (k : Int) ≤ I (j : Int) by rw [I_le (by omega) (by omega) (by omega) (by omega)]; omega), x_byteOf NF w (by omega), Option.bind_some, x_append NF hu (by omega), Option.bind_some, show I (j : Int) + 1 = I ((j + 1 : Nat) : Int) from I_add j 1]
      exact e1
    · show mM_letters_108 NF _ _ _ _ _ = _
      unfold mM_letters_108
      simp only [nm]
      rw [if_neg (show ¬ I (k : Int) ≤ I (j : Int) by rw [I_le (by omega) (by omega) (by omega) (by omega)]; omega), m_byte w (by omega), hv, wr_I (by omega) (by omega) (by omega), Int.toNat_natCast, show I (j : Int) + 1 = I ((j + 1 : Nat) : Int) from I_add j 1, show I (p : Int) + 1 = I ((p + 1 : Nat) : Int) from I_add p 1]
      exact e2
theorem pu_letters : Pu_letters InvX := by
  intro u b v w h
  have hh := h
  have hN' := NF_big
  obtain ⟨n, rw, fr, se, hX, hM, hs, ⟨p, p1, p2, p3, p4⟩, hN, hG⟩ := h
  have key := lt_in NF (v := v) (w := w) 8 NF NF 0 0 0 w.toUInt64 (by omega) (by omega) rfl rfl (.inl ⟨rfl, rfl⟩) (fun j hj => by omega)
  have e0 : w.toUInt64.toInt64 = w := Int64.toInt64_toUInt64 w
  rw [e0] at key
  unfold mX10_letters mX10_lettersIn mM_letters
  rcases key with ⟨k1, k2⟩ | ⟨k, hk, hb, k1, k2⟩
  · have k1' : mX10_lettersIn_h7 NF NF w 0 0 0 = some (-102) := k1
    have k2' : mM_letters_h11 NF NF v w 0 1 w 0 = some (-102, v) := k2
    rw [k1', k2', Option.bind_some, if_neg (by decide)]
    exact ⟨_, _, _, rfl, rfl, hh⟩
  · have k1' : mX10_lettersIn_h7 NF NF w 0 0 0 = some (I k) := k1
    have k2' : mM_letters_h11 NF NF v w 0 1 w 0 = _ := k2
    rw [k1', k2', Option.bind_some, p3, show I (p : Int) + I (k : Int) = I (p + k) from I_add p k]
    have ne : ¬ I (k : Int) = -102 := by
      rw [show (-102 : Int32) = I (-102) from rfl, I_eq (by omega) (by omega) (by omega) (by omega)]
      omega
    rw [if_pos ne]
    have er : mX6_hasRoom NF u (I k) = some (I (bo (p + k ≤ 20))) := by
      unfold mX6_hasRoom mX6_hasRoom_19
      rw [p2, show I (p : Int) + I (k : Int) = I (p + k) from I_add p k]
      show (if I 20 < I ((p : Int) + k) then _ else _) = _
      by_cases q : p + k ≤ 20
      · rw [bo_t q, if_neg (by rw [I_lt (by omega) (by omega) (by omega) (by omega)]; omega)]
        rfl
      · rw [bo_f q, if_pos (by rw [I_lt (by omega) (by omega) (by omega) (by omega)]; omega)]
        rfl
    rw [er, Option.bind_some]
    by_cases q : p + k ≤ 20
    · rw [bo_t q, if_pos (by decide), if_pos (show I ((p : Int) + k) ≤ 20 by rw [show (20 : Int32) = I 20 from rfl, I_le (by omega) (by omega) (by omega) (by omega)]; omega)]
      exact lt_add hs hk hb k NF NF 0 u v p (by omega) (by omega) rfl (by omega) p2 p3 p4 hX hM hN hG
    · rw [bo_f q, if_neg (by decide), if_neg (show ¬ I ((p : Int) + k) ≤ 20 by rw [show (20 : Int32) = I 20 from rfl, I_le (by omega) (by omega) (by omega) (by omega)]; omega)]
      exact ⟨_, _, _, rfl, rfl, hh⟩
