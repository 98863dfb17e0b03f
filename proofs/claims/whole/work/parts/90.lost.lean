theorem plc_congr {fr : Int} {r r' : Int → Int} (h : ∀ f, 0 ≤ f → f < 10 → f ≠ 8 → r' f = r f) : plc fr r' = plc fr r := by
  unfold plc
  rw [h 0 (by omega) (by omega) (by omega), h 6 (by omega) (by omega) (by omega), h 7 (by omega) (by omega) (by omega)]
theorem rnd_congr {fr : Int} {r r' : Int → Int} (h : ∀ f, 0 ≤ f → f < 10 → f ≠ 8 → r' f = r f) : rnd fr r' = rnd fr r := by
  unfold rnd pls
  rw [plc_congr h, h 0 (by omega) (by omega) (by omega), h 2 (by omega) (by omega) (by omega)]
theorem lsm_congr {fr : Int} {r r' : Int → Int} (h : ∀ f, 0 ≤ f → f < 10 → f ≠ 8 → r' f = r f) (m : Int) : lsm fr r' m = lsm fr r m := by
  unfold lsm
  rw [plc_congr h, h 0 (by omega) (by omega) (by omega), h 6 (by omega) (by omega) (by omega)]
theorem jnm_congr {fr : Int} {r r' : Int → Int} (h : ∀ f, 0 ≤ f → f < 10 → f ≠ 8 → r' f = r f) (hr : Rv r) (m : Int) : jnm fr r' m = jnm fr r m := by
  have hp := plc_b (fr := fr) hr
  have hb := rnd_b (fr := fr) hr
  unfold jnm
  rw [rnd_congr h, plc_congr h, h 0 (by omega) (by omega) (by omega), h 3 (by omega) (by omega) (by omega), h 6 (by omega) (by omega) (by omega)]
  by_cases q : r 0 = 3
  · rw [if_pos q, if_pos q]
  · have hw : 0 ≤ m % rnd fr r ∧ m % rnd fr r < rnd fr r := ⟨Int.emod_nonneg _ (by omega), Int.emod_lt_of_pos _ (by omega)⟩
    have hwp : 0 ≤ m % rnd fr r / plc fr r ∧ m % rnd fr r / plc fr r < pls r := by
      refine ⟨Int.ediv_nonneg hw.1 (by omega), ?_⟩
      apply Int.ediv_lt_of_lt_mul (by omega)
      have h3 := hw.2
      have e : rnd fr r = pls r * plc fr r := by
        unfold rnd
        rw [if_neg q]
      rw [← e]
      exact h3
    have he := eix_b hr hwp.1 hwp.2
    have h2 := hr.2.2.1
    have e : eix r' (m % rnd fr r / plc fr r) = eix r (m % rnd fr r / plc fr r) := by
      unfold eix
      rw [h 2 (by omega) (by omega) (by omega)]
    rw [e, h (3 + eix r (m % rnd fr r / plc fr r)) (by omega) (by omega) (by omega)]
theorem Lsh_congr {fr : Int} {r r' : Int → Int} (h : ∀ f, 0 ≤ f → f < 10 → f ≠ 8 → r' f = r f) (hr : Rv r) (o p T : Int) : Lsh fr r' o p T = Lsh fr r o p T := by
  unfold Lsh
  rw [lsm_congr h, jnm_congr h hr]
theorem Lsh_mod (fr : Int) (r : Int → Int) (o p T : Int) : Lsh fr r (o % rnd fr r) p T = Lsh fr r o p T := by
  have e : (T + o % rnd fr r) % rnd fr r = (T + o) % rnd fr r := by
    rw [Int.add_emod, Int.emod_emod, ← Int.add_emod]
  have ej : jnm fr r (T + o % rnd fr r) = jnm fr r (T + o) := by
    unfold jnm
    rw [e]
  have el : lsm fr r (T + o % rnd fr r) = lsm fr r (T + o) := by
    unfold lsm
    by_cases q : r 0 = 3
    · rw [if_pos q, if_pos q]
    · rw [← rnd_mod (fr := fr) q (T + o % rnd fr r), ← rnd_mod (fr := fr) q (T + o), e]
  unfold Lsh
  rw [ej, el]
theorem Lw_So {se fr : Int} {rw : Int → Int} {p w k y i : Int} (hi : 0 ≤ i) (hk : i ≠ k) (hv : Rv (rowk rw i)) (T : Int) : Lw (-1) (-1) se fr (rwS rw k y) p w i T = Lw (-1) (-1) se fr rw p w i T := by
  have hc : ∀ f, 0 ≤ f → f < 10 → rowk (rwS rw k y) i f = rowk rw i f := fun f f1 f2 => rwS_o hk f1 f2
  by_cases q : w ≤ rowk rw i 9
  · rw [Lw_eq hi (Rv_congr hc hv) (by rw [hc 9 (by omega) (by omega)]; exact q), Lw_eq hi hv q, hc 8 (by omega) (by omega)]
    exact Lsh_congr (fun f f1 f2 _ => hc f f1 f2) hv _ _ _
  · rw [Lw_no (by rw [hc 9 (by omega) (by omega)]; exact q), Lw_no q]
theorem Lw_Sk {se fr : Int} {rw : Int → Int} {p w k y : Int} (hk : 0 ≤ k) (hv : Rv (rowk rw k)) (h1 : -1000 ≤ y) (h2 : y ≤ 1000) (hw : w ≤ rowk rw k 9) (T : Int) : Lw (-1) (-1) se fr (rwS rw k y) p w k T = Lsh fr (rowk rw k) y p T := by
  have hr : Rv (rowk (rwS rw k y) k) := by
    rw [rwS_k]
    exact Rv_S hv h1 h2
  have h9 : rowk (rwS rw k y) k 9 = rowk rw k 9 := by
    rw [rwS_k]
    exact if_neg (by omega)
  have h8 : rowk (rwS rw k y) k 8 = y := by
    rw [rwS_k]
    exact if_pos rfl
  rw [Lw_eq hk hr (by rw [h9]; exact hw), h8]
  apply Lsh_congr _ hv
  intro f f1 f2 f3
  rw [rwS_k]
  exact if_neg f3
theorem Pw_S {rw : Int → Int} {k y i : Int} : Pw (rwS rw k y) i = Pw rw i := by
  unfold Pw rowk rwS
  rw [if_neg (by omega)]
theorem xor_p : ∀ a : Nat, a < 10 → ∀ b : Nat, b < 109 → (0 : Int32) ≤ I (a : Int) ^^^ I (b : Int) := by decide +kernel
theorem xor_m : ∀ a : Nat, a < 9 → ∀ b : Nat, b < 109 → ¬ (0 : Int32) ≤ I (-(a : Int) - 1) ^^^ I (b : Int) := by decide +kernel
theorem x_fmod (N : Nat) {a b : Int} (a1 : -9 ≤ a) (a2 : a ≤ 9) (b1 : 1 ≤ b) (b2 : b ≤ 108) : mJ9_floorMod_7cf53 N (I a) (I b) = some (I (a % b)) := by
  unfold mJ9_floorMod_7cf53 mJ9_floorMod_7cf53_18
  simp only [nm]
  have hb0 : ¬ I b = (0 : Int32) := by
    rw [show (0 : Int32) = I 0 from rfl, I_eq (by omega) (by omega) (by omega) (by omega)]
    omega
  rw [gd_pos hb0, I_trem (by omega) (by omega) (by omega) (by omega)]
  have hm := tmod_b (a := a) (b := b) (by omega)
  have hw := tmod_wrap (a := a) (b := b) (by omega)
  by_cases q : 0 ≤ a
  · have := xor_p a.toNat (by omega) b.toNat (by omega)
    rw [show ((a.toNat : Nat) : Int) = a by omega, show ((b.toNat : Nat) : Int) = b by omega] at this
    rw [if_pos this, Int.tmod_eq_emod_of_nonneg q]
  · have := xor_m (-a - 1).toNat (by omega) b.toNat (by omega)
    rw [show (-(((-a - 1).toNat : Nat) : Int) - 1) = a by omega, show ((b.toNat : Nat) : Int) = b by omega] at this
    rw [if_neg this]
    have hneg : a.tmod b ≤ 0 := by
      have h1 : (-a).tmod b = -(a.tmod b) := Int.neg_tmod a b
      have h2 : (-a).tmod b = (-a) % b := Int.tmod_eq_emod_of_nonneg (by omega)
      have h3 := Int.emod_nonneg (-a) (show b ≠ 0 by omega)
      omega
    by_cases q2 : a.tmod b = 0
    · rw [if_pos (show I (a.tmod b) = (0 : Int32) by rw [q2]; rfl), q2]
      rw [q2, Int.zero_add, Int.emod_self] at hw
      rw [← hw]
    · rw [if_neg (show ¬ I (a.tmod b) = (0 : Int32) by rw [show (0 : Int32) = I 0 from rfl, I_eq (by omega) (by omega) (by omega) (by omega)]; exact q2), I_add, ← hw, Int.emod_eq_of_lt (by omega) (by omega)]
theorem sfX_sfX (u : USt) (k : Nat) (f g : Nat → Int32) : sfX (sfX u k f) k g = sfX u k g := by
  unfold sfX
  simp only [va_up_2]
theorem sfM_sfM (v : MSt) (k : Nat) (f g : Nat → Int32) : sfM (sfM v k f) k g = sfM v k g := by
  unfold sfM
  simp only [va_up_2]
theorem x_part (N : Nat) {u : USt} {m : Nat} (h : u.1 11 = I m) (hm : m ≤ 6) {j c : Nat} (hj : j < m) (hc : c < 4) : mX5_part_6 N u (I (j : Int)) (I (c : Int)) = some (u.2 7 (4 * j + c)) := by
  unfold mX5_part_6 mX5_part_6_25 mX5_part_6_26 mX5_part_6_45
  rw [h]
  simp (disch := omega) only [I_lit, I_lt, I_le, I_mul, I_add]
  rw [if_neg (by omega), if_neg (by omega), if_neg (by omega), if_neg (by omega), if_neg (by decide), rdX_7 (by omega) (by omega), show ((j : Int) * 4 + c).toNat = 4 * j + c by omega]
theorem notes_l {rw : Int → Int} {n fr se : Int} {m : Nat} (hm : m ≤ 6) (n1 : 0 ≤ n) (n2 : n ≤ 10) : ∀ (d f f' j : Nat) (u : USt) (v : MSt), d < f → d < f' → d + j = m → Tab u 0 499 1 n n (Pw rw) (Lw (-1) (-1) se fr rw 1 1) → Mst v rw n fr (-1) (-1) se → u.1 11 = I m → v.1 21 = I m → (∀ j, j < 24 → u.2 7 j = v.2.1 22 j) → NoteR (u.2 7) m → ∃ (r : Int) (g1 g2 : Nat → Int32), (r = 0 ∨ r = 1) ∧ mX10_allNotesHold_h2 NF f u (I (j : Int)) = some (I r, sfX u 24 g1) ∧ mM_areSo_h4 NF f' v (I 1) (I (j : Int)) = some (I r, sfM v 10 g2) := by
  have hb := NF_big
  intro d
  induction d with
  | zero =>
    intro f f' j u v hf hf' hd hT hM hu hv hn hR
    obtain ⟨f, rfl⟩ : ∃ g, f = g + 1 := ⟨f - 1, by omega⟩
    obtain ⟨f', rfl⟩ : ∃ g, f' = g + 1 := ⟨f' - 1, by omega⟩
    refine ⟨1, u.2 24, v.2.1 10, .inr rfl, ?_, ?_⟩
    · show mX10_allNotesHold_2 NF _ _ _ = _
      unfold mX10_allNotesHold_2 mX5_size_6
      rw [Option.bind_some, hu, if_pos (by rw [I_le (by omega) (by omega) (by omega) (by omega)]; omega), sfX_self]
      rfl
    · show mM_areSo_4 NF _ _ _ _ = _
      unfold mM_areSo_4 mM_areSo_75
      rw [hv, if_pos (by rw [I_le (by omega) (by omega) (by omega) (by omega)]; omega), gd_pos (.inr rfl), sfM_self]
  | succ d ih =>
    intro f f' j u v hf hf' hd hT hM hu hv hn hR
    obtain ⟨f, rfl⟩ : ∃ g, f = g + 1 := ⟨f - 1, by omega⟩
    obtain ⟨f', rfl⟩ : ∃ g, f' = g + 1 := ⟨f' - 1, by omega⟩
    obtain ⟨a, t, c, w, ha, ht, hc, hw, ha2, ht2, hc2, hw1, hw2⟩ := hR j (by omega)
    obtain ⟨g1, f1, f2⟩ := x_reach (wd := sh c) (a := 24) (.inl rfl) hT (Net_w hM) n1 n2 (by omega) (by omega) (by omega) (by omega) (by omega) (b0 := t) ht2.1 (by omega) ha2.1 ha2.2 (sh_p8 hc2.1 hc2.2)
    obtain ⟨g2, f3⟩ := m_soonestOf hM (p := 1) (w := 1) (by omega) (by omega) (by omega) (by omega) ht2.1 (by omega) ha2.1 ha2.2 hc2.1 hc2.2
    have f4 := f1 c hc2.1 hc2.2 (by rw [tb_sh hc2.1 hc2.2]; simp)
    rw [Int.zero_add] at f4
    have hk := arr_ok (P := Pw rw) (L := Lw (-1) (-1) se fr rw 1 1) (n := n.toNat) (f := a) (m := t) (p := 1) ht2.1 (by omega) (by omega) c hc2.1 hc2.2
    unfold soo at f3
    generalize arr 1 (Pw rw) (Lw (-1) (-1) se fr rw 1 1) n.toNat a t c = z at *
    have e24 : (sfX u 24 g1).2 24 = g1 := sfX_g _ _ _
    have eu : (sfX u 24 g1).1 11 = I m := hu
    have e7 : (sfX u 24 g1).2 7 = u.2 7 := sfX_ne (by omega)
    have e22 : (sfM v 10 g2).2.1 22 = v.2.1 22 := sfM_ne (by omega)
    have p0 := x_part NF hu hm (j := j) (c := 0) (by omega) (by omega)
    have p1 := x_part NF hu hm (j := j) (c := 1) (by omega) (by omega)
    have p2 := x_part NF hu hm (j := j) (c := 2) (by omega) (by omega)
    have p3 := x_part NF eu hm (j := j) (c := 3) (by omega) (by omega)
    rw [Nat.add_zero, ha] at p0
    rw [ht] at p1
    rw [hc] at p2
    rw [e7, hw] at p3
    have k0 : (4 * (j : Int)).toNat = 4 * j := by omega
    have k1 : (4 * (j : Int) + 1).toNat = 4 * j + 1 := by omega
    have k2 : (4 * (j : Int) + 2).toNat = 4 * j + 2 := by omega
    have k3 : (4 * (j : Int) + 3).toNat = 4 * j + 3 := by omega
    have v0 : v.2.1 22 (4 * j) = I a := by rw [← hn _ (by omega)]; exact ha
    have v1 : v.2.1 22 (4 * j + 1) = I t := by rw [← hn _ (by omega)]; exact ht
    have v2 : v.2.1 22 (4 * j + 2) = I c := by rw [← hn _ (by omega)]; exact hc
    have v3 : v.2.1 22 (4 * j + 3) = I w := by rw [← hn _ (by omega)]; exact hw
    have X : mX10_allNotesHold_h2 NF (f + 1) u (I (j : Int)) = if I (cv 0 z) = I w then mX10_allNotesHold_h2 NF f (sfX u 24 g1) (I ((j : Int) + 1)) else some (0, sfX u 24 g1) := by
      show mX10_allNotesHold_2 NF _ _ _ = _
      unfold mX10_allNotesHold_2 mX5_size_6
      rw [Option.bind_some, hu, if_neg (by rw [I_le (by omega) (by omega) (by omega) (by omega)]; omega), show (2 : Int32) = I ((2 : Nat) : Int) from rfl, p2, Option.bind_some, x_isIslet NF (by omega) (by omega), Option.bind_some, bo_t (show 0 ≤ c ∧ c < 8 from hc2), if_pos (by decide), show (0 : Int32) = I ((0 : Nat) : Int) from rfl, p0, Option.bind_some, show (1 : Int32) = I ((1 : Nat) : Int) from rfl, p1, Option.bind_some]
      rw [show I ((1 : Nat) : Int) <<< (I c &&& 31) = sh c from rfl, f2, Option.bind_some, rdX_24 hc2.1 hc2.2, e24, f4, show (3 : Int32) = I ((3 : Nat) : Int) from rfl, p3, Option.bind_some]
      rw [show I (j : Int) + I ((1 : Nat) : Int) = I ((j : Int) + 1) from I_add _ _]
    have Y : mM_areSo_h4 NF (f' + 1) v (I 1) (I (j : Int)) = if soo (fun _ => z) 0 = w then mM_areSo_h4 NF f' (sfM v 10 g2) (I 1) (I ((j : Int) + 1)) else mM_areSo_h4 NF f' (sfM v 10 g2) (I 0) (I ((j : Int) + 1)) := by
      show mM_areSo_4 NF _ _ _ _ = _
      unfold mM_areSo_4 mM_areSo_68
      rw [hv, if_neg (by rw [I_le (by omega) (by omega) (by omega) (by omega)]; omega), if_neg (by decide)]
      have hs : soo (fun _ => z) 0 = if z = 100000 then -1 else z := rfl
      have f3' : mM_soonestOf NF v (I a) (I c) (I t) (I 1) (I 1) = some (I (soo (fun _ => z) 0), sfM v 10 g2) := f3
      have hsb : -1 ≤ soo (fun _ => z) 0 ∧ soo (fun _ => z) 0 ≤ 3000 := by
        rw [hs]
        split <;> omega
      simp (disch := omega) only [I_lit, I_mul, I_add, rd_I, k0, k1, k2, k3, v0, v1, v2, v3, f3', bp_some, e22, I_eq]
      by_cases q : soo (fun _ => z) 0 = w
      · rw [if_neg (not_not_intro q), if_pos q]
      · rw [if_pos q, if_neg q]
    rw [X, Y]
    by_cases q : z = w
    · have q1 : I (cv 0 z) = I w := by
        unfold cv
        rw [if_neg (by omega), Int.sub_zero, q]
      have q2 : soo (fun _ => z) 0 = w := by
        show (if z = 100000 then -1 else z) = w
        rw [if_neg (by omega), q]
      rw [if_pos q1, if_pos q2]
      obtain ⟨r, h1, h2, i1, i2, i3⟩ := ih f f' (j + 1) (sfX u 24 g1) (sfM v 10 g2) (by omega) (by omega) (by omega) (hT.keep n2 rfl (fun c hc => vu_ne (by omega))) hM hu hv (fun i hi => by rw [e7, e22]; exact hn i hi) (by rw [e7]; exact hR)
      rw [sfX_sfX] at i2
      rw [sfM_sfM] at i3
      exact ⟨r, h1, h2, i1, i2, i3⟩
    · have q1 : ¬ I (cv 0 z) = I w := by
        have hz := cv_b (s := 0) (x := z) (by omega) (by omega) (by omega)
        rw [I_eq (by omega) (by omega) (by omega) (by omega)]
        unfold cv
        split <;> omega
      have q2 : ¬ soo (fun _ => z) 0 = w := by
        show ¬ (if z = 100000 then -1 else z) = w
        split <;> omega
      rw [if_neg q1, if_neg q2]
      obtain ⟨f', rfl⟩ : ∃ g, f' = g + 1 := ⟨f' - 1, by omega⟩
      refine ⟨0, g1, g2, .inl rfl, rfl, ?_⟩
      show mM_areSo_4 NF _ _ _ _ = _
      unfold mM_areSo_4 mM_areSo_75
      rw [gd_pos (.inl rfl), if_pos (show I 0 = (0 : Int32) from rfl)]
      split <;> rfl
theorem saM_g (v : MSt) (k j : Nat) (x : Int32) : (saM v k j x).2.1 k = upd (v.2.1 k) j x := vu_eq _ _ _
theorem upd_upd (f : Nat → Int32) (k : Nat) (x y : Int32) : upd (upd f k x) k y = upd f k y := by
  funext j
  by_cases q : j = k
  · subst q
    rw [ud_eq, ud_eq]
  · rw [ud_ne q, ud_ne q, ud_ne q]
/-- the reference's state with another offset of a bridge -/
def VS (v0 v : MSt) (k y : Int) : Prop := (∀ a, a ≠ 11 → a ≠ 12 → v.1 a = v0.1 a) ∧ (∀ a, a ≠ 10 → a ≠ 5 → v.2.1 a = v0.2.1 a) ∧ v.2.1 5 = upd (v0.2.1 5) (10 * k + 8).toNat (I y)
theorem VS.mst {v0 v : MSt} {rw : Int → Int} {n fr se k y : Int} (hM : Mst v0 rw n fr (-1) (-1) se) (h : VS v0 v k y) (k1 : 0 ≤ k) (k2 : k < n) (h1 : -1000 ≤ y) (h2 : y ≤ 1000) : Mst v (rwS rw k y) n fr (-1) (-1) se := by
  have hS := Mst_S hM rfl k1 k2 h1 h2
  obtain ⟨hr, hf, hf2, hn, hn1, hn2, hwo, hsk, hse, w1, w2, w3, w4⟩ := hS
  refine ⟨fun z z1 z2 => ?_, (h.1 6 (by omega) (by omega)).trans hf, hf2, (h.1 4 (by omega) (by omega)).trans hn, hn1, hn2, (h.1 7 (by omega) (by omega)).trans hwo, (h.1 8 (by omega) (by omega)).trans hsk, (h.1 9 (by omega) (by omega)).trans hse, w1, w2, w3, w4⟩
  rw [h.2.2]
  have := hr z z1 z2
  rw [show (saM v0 5 (10 * k + 8).toNat (I y)).2.1 5 = upd (v0.2.1 5) (10 * k + 8).toNat (I y) from saM_g _ _ _ _] at this
  exact this
theorem VS.set {v0 v : MSt} {k y : Int} (h : VS v0 v k y) (y' : Int) : VS v0 (saM v 5 (10 * k + 8).toNat (I y')) k y' := by
  refine ⟨h.1, fun a a1 a2 => (vu_ne a2).trans (h.2.1 a a1 a2), ?_⟩
  show va_up v.2.1 5 (upd (v.2.1 5) (10 * k + 8).toNat (I y')) 5 = _
  rw [vu_eq, h.2.2, upd_upd]
theorem VS.sf {v0 v : MSt} {k y : Int} (h : VS v0 v k y) (g : Nat → Int32) : VS v0 (sfM v 10 g) k y := ⟨h.1, fun a a1 a2 => (sfM_ne a1).trans (h.2.1 a a1 a2), (sfM_ne (by omega)).trans h.2.2⟩
theorem VS.init {v : MSt} {rw : Int → Int} {n k : Int} (hr : RowsM v rw) (k1 : 0 ≤ k) (k2 : k < n) (n2 : n ≤ 10) : VS v v k (rowk rw k 8) := by
  refine ⟨fun _ _ _ => rfl, fun _ _ _ => rfl, ?_⟩
  funext j
  by_cases q : j = (10 * k + 8).toNat
  · subst q
    rw [ud_eq]
    exact hr (10 * k + 8) (by omega) (by omega)
  · rw [ud_ne q]
theorem VS.done {v0 v : MSt} {rw : Int → Int} {n k : Int} (hr : RowsM v0 rw) (k1 : 0 ≤ k) (k2 : k < n) (n2 : n ≤ 10) (h : VS v0 v k (rowk rw k 8)) : KM v0 v := by
  refine ⟨fun a q => h.1 a (by omega) (by omega), fun a q => ?_⟩
  by_cases q5 : a = 5
  · subst q5
    rw [h.2.2]
    exact (VS.init hr k1 k2 n2).2.2.symm
  · exact h.2.1 a (by omega) q5
theorem lost_l {b : BSt} {rw : Int → Int} {n fr se k : Int} {m : Nat} {v0 : MSt} (hm : m ≤ 6) (hs : Shf rw n) (k1 : 0 ≤ k) (k2 : k < n) (hM0 : Mst v0 rw n fr (-1) (-1) se) (hv21 : v0.1 21 = I m) (hnf : rowk rw k 0 ≠ 3) (f22 : Nat → Int32) (hv22 : v0.2.1 22 = f22) : ∀ (e f f' : Nat) (d y : Int) (x : Int32) (u : USt) (v : MSt), e < f → e < f' → (e : Int) = 10 - d → 0 ≤ d → -1000 ≤ y → y ≤ 1000 → Xst u b rw n fr → Tab u 0 499 1 n n (Pw (rwS rw k y)) (Lw (-1) (-1) se fr (rwS rw k y) 1 1) → VS v0 v k y → u.1 11 = I m → (∀ j, j < 24 → u.2 7 j = f22 j) → NoteR (u.2 7) m → ∃ (r : Int32) (u' : USt) (v' : MSt), mX10_lost_h75 NF b f u (I k) k.toNat (I (rnd fr (rowk rw k))) x (I d) = some (r, u') ∧ mM_lost_h29 NF f' v (I k) (I (rowk rw k 8)) x (I d) = some (r, v') ∧ KX u u' ∧ VS v0 v' k (rowk rw k 8) := by
  have hb := NF_big
  have n1 := hM0.2.2.2.2.1
  have n2 := hM0.2.2.2.2.2.1
  have hv := hM0.2.2.2.2.2.2.2.2.2.2.2.2 k k1 k2
  have h8 := hs k k1 k2
  have hR := rnd_b (fr := fr) hv
  have h9 := hv.2.2.2.2.2.2.2
  intro e
  induction e with
  | zero =>
    intro f f' d y x u v hf hf' hd hd1 y1 y2 hX hT hV hu hn hNR
    obtain ⟨f, rfl⟩ : ∃ g, f = g + 1 := ⟨f - 1, by omega⟩
    obtain ⟨f', rfl⟩ : ∃ g, f' = g + 1 := ⟨f' - 1, by omega⟩
    refine ⟨x, u, _, ?_, ?_, KX.refl u, hV.set (rowk rw k 8)⟩
    · show mX10_lost_75 NF b _ _ _ _ _ _ _ = _
      unfold mX10_lost_75
      rw [show (9 : Int32) = I 9 from rfl, if_pos (by rw [I_lt (by omega) (by omega) (by omega) (by omega)]; omega)]
    · show mM_lost_29 NF _ _ _ _ _ _ = _
      unfold mM_lost_29 mM_lost_94
      simp only [nm]
      simp (disch := omega) only [I_lit, I_le, I_mul, I_add, wr_I]
      rw [if_pos (by omega)]
  | succ e ih =>
    intro f f' d y x u v hf hf' hd hd1 y1 y2 hX hT hV hu hn hNR
    obtain ⟨f, rfl⟩ : ∃ g, f = g + 1 := ⟨f - 1, by omega⟩
    obtain ⟨f', rfl⟩ : ∃ g, f' = g + 1 := ⟨f' - 1, by omega⟩
    have hbk := hX.row k1 k2
    have hfr := hX.2.2.2.2.1
    have u19 := hX.2.2.2.1
    obtain ⟨t15, t16, t17, t18, -⟩ := id hT
    have hom := Int.emod_nonneg (rowk rw k 8 - d) (show rnd fr (rowk rw k) ≠ 0 by omega)
    have hom2 := Int.emod_lt_of_pos (rowk rw k 8 - d) (show 0 < rnd fr (rowk rw k) by omega)
    obtain ⟨u5, l1, l2, l3⟩ := x_lay NF (by omega) hbk hfr (o := (rowk rw k 8 - d) % rnd fr (rowk rw k)) t15 t16 t17 t18 k1 k2 n2 (by omega) (by omega) (by omega) (by omega) (by omega) (by omega) hom (by omega)
    have hvi : ∀ i, 0 ≤ i → i < n → Rv (rowk rw i) := hM0.2.2.2.2.2.2.2.2.2.2.2.2
    have hT5 : Tab u5 0 499 1 n n (Pw (rwS rw k (rowk rw k 8 - d))) (Lw (-1) (-1) se fr (rwS rw k (rowk rw k 8 - d)) 1 1) := by
      refine hT.lay l2 k1 ?_ n (.inl (by omega)) (fun i i1 i2 i3 => ⟨?_, ?_⟩)
      · rw [Pw_S]
        refine l3.congr (fun T => ?_)
        rw [Lw_Sk k1 hv (by omega) (by omega) (by omega), Lsh_mod]
      · rw [Pw_S, Pw_S]
      · funext T
        rw [Lw_So i1 i3 (hvi i i1 i2), Lw_So i1 i3 (hvi i i1 i2)]
    have hV2 := hV.set (rowk rw k 8 - d)
    have hM2 := hV2.mst hM0 k1 k2 (by omega) (by omega)
    have hu5 : u5.1 11 = I m := by rw [l2.1]; exact hu
    have e75 : u5.2 7 = u.2 7 := l2.2.1 7 (by omega) (by omega) (by omega)
    obtain ⟨r, g1, g2, r01, a1, a2⟩ := notes_l hm n1 n2 m NF NF 0 u5 _ (by omega) (by omega) (by omega) hT5 hM2 hu5 ((hV2.1 21 (by omega) (by omega)).trans hv21) (fun j hj => by
      rw [e75, hV2.2.1 22 (by omega) (by omega), hv22]
      exact hn j hj) (by rw [e75]; exact hNR)
    have hX2 : Xst (sfX u5 24 g1) b rw n fr := hX.keep (l2.kx.trans (KX_sf _ _ (by omega)))
    obtain ⟨r', u', v', i1, i2, i3, i4⟩ := ih f f' (d + 1) (rowk rw k 8 - d) (if r = 0 then x else x ||| sh d) (sfX u5 24 g1) (sfM (saM v 5 (10 * k + 8).toNat (I (rowk rw k 8 - d))) 10 g2) (by omega) (by omega) (by omega) (by omega) (by omega) (by omega) hX2 (hT5.keep n2 rfl (fun c hc => vu_ne (by omega))) (hV2.sf g2) hu5 (fun j hj => by
      rw [show (sfX u5 24 g1).2 7 = u.2 7 from (sfX_ne (by omega)).trans e75]
      exact hn j hj) (by rw [show (sfX u5 24 g1).2 7 = u.2 7 from (sfX_ne (by omega)).trans e75]; exact hNR)
    refine ⟨r', u', v', ?_, ?_, l2.kx.trans ((KX_sf _ _ (by omega)).trans i3), i4⟩
    · show mX10_lost_75 NF b _ _ _ _ _ _ _ = _
      unfold mX10_lost_75 mX10_lost_122 mX10_allNotesHold
      simp only [nm]
      rw [show (9 : Int32) = I 9 from rfl, if_neg (by rw [I_lt (by omega) (by omega) (by omega) (by omega)]; omega), hbk.f5, I_sub, x_fmod NF (by omega) (by omega) (by omega) (by omega), Option.bind_some, u19, l1, Option.bind_some, show (0 : Int32) = I ((0 : Nat) : Int) from rfl, a1, bp_some, ← i1]
      rw [show I d + 1 = I (d + 1) from I_add d 1, show (1 : Int32) <<< (I d &&& 31) = sh d from rfl]
      rcases r01 with rfl | rfl
      · rw [if_pos (show I 0 = I ((0 : Nat) : Int) from rfl), if_pos rfl]
      · rw [if_neg (show ¬ I 1 = I ((0 : Nat) : Int) by decide), if_neg (by decide)]
    · show mM_lost_29 NF _ _ _ _ _ _ = _
      unfold mM_lost_29 mM_lost_54 mM_lost_86 mM_areSo
      simp only [nm]
      have h5 : RowsM v (rwS rw k y) := (hV.mst hM0 k1 k2 y1 y2).1
      have e0 : rwS rw k y (10 * k) = rowk rw k 0 := by
        unfold rwS rowk
        rw [if_neg (by omega), Int.add_zero]
      have h0 := hv.1
      simp (disch := omega) only [I_lit, I_le, I_eq, I_mul, I_add, I_sub, wr_I, rd_I, h5 (10 * k) (by omega) (by omega), e0, sh_eq, or_0]
      rw [if_neg (by omega), if_neg hnf]
      rw [show mM_areSo_h4 NF NF (saM v 5 (10 * k + 8).toNat (I (rowk rw k 8 - d))) (I 1) (I 0) = _ from a2, bp_some, ← i2]
      have hrr : (I r = I 0) = (r = 0) := I_eq (by omega) (by omega) (by omega) (by omega)
      simp only [hrr]
      split
      · rcases r01 with rfl | rfl
        · rw [if_pos rfl, if_pos rfl]
        · rw [if_neg (by decide), if_neg (by decide)]
      · rcases r01 with rfl | rfl
        · rw [if_pos rfl, if_pos rfl]
        · rw [if_neg (by decide), if_neg (by decide)]
theorem pu_lost : Pu_lost InvX := by
  have hbig := NF_big
  intro u b v a1 h
  have hh := h
  obtain ⟨k, rfl, k1, k2⟩ := I_ex a1
  obtain ⟨n, rw, fr, se, hX, hM, hs, hP, hN, hG⟩ := h
  have hX' := hX
  have hM' := hM
  obtain ⟨h1, h2, h3, h4, h5, h6⟩ := hX
  obtain ⟨hr, hf, hf2, hn, hn1, hn2, hwo, hsk, hse, hwo2, hsk2, hse2, hv⟩ := hM
  obtain ⟨m, m1, m2, m3, m4, m5⟩ := hN
  unfold mX10_lost mX10_lost_52 mM_lost mX10_allNotesHold
  simp only [nm]
  rw [x_isBridge NF h1 h2 h3 k1 k2, m_isBridge NF hn hn1 hn2 k1 k2]
  simp (disch := omega) only [Option.bind_some, I_lit, bo_0, Decidable.not_not, I_neg, I_mul, I_add]
  by_cases q1 : 0 ≤ k ∧ k < n
  · rw [if_pos q1, if_pos q1]
    have hb := hX'.row q1.1 q1.2
    have hR := rnd_b (fr := fr) hb.rv
    have e8 : rw (10 * k + 8) = rowk rw k 8 := rfl
    obtain ⟨u4, t1, t2, t3⟩ := x_openTable (s := 0) (sp := 499) (p := 1) (w := 1) se hX' hs (by omega) (by omega) (by omega) (by omega) (by omega) (by omega) (by omega) (by omega)
    have u4n : u4.1 11 = I m := (t2.1 11 (by omega)).trans m2
    have u47 : u4.2 7 = u.2 7 := t2.2 7 (by omega)
    have u419 : u4.1 19 = I fr := (t2.1 19 (by omega)).trans h4
    rw [x_get NF hX' q1.1 q1.2, Option.bind_some, hb.skip, t1, Option.bind_some, bcl_cls hb, iv_fixed hb.rv, u419, xround NF hb h5, Option.bind_some]
    simp (disch := omega) only [bo_0, I_le, rd_I, hr (10 * k + 8) (by omega) (by omega), e8]
    have hV0 : VS v v k (rowk rw k 8) := VS.init hr q1.1 q1.2 hn2
    by_cases q2 : rowk rw k 0 = 3
    · rw [if_neg (not_not_intro q2)]
      obtain ⟨r, g1, g2, r01, c1, c2⟩ := notes_l m1 hn1 hn2 m NF NF 0 u4 (saM v 5 (10 * k + 8).toNat (I (rowk rw k 8 - 0))) (by omega) (by omega) (by omega) t3 (by
        have := (hV0.set (rowk rw k 8 - 0)).mst hM' q1.1 q1.2 (by have := hs k q1.1 q1.2; omega) (by have := hs k q1.1 q1.2; omega)
        have e : rwS rw k (rowk rw k 8 - 0) = rw := by
          funext z
          unfold rwS
          split
          · rename_i q
            rw [q, Int.sub_zero]
            rfl
          · rfl
        rw [e] at this
        exact this) u4n m3 (fun j hj => by
          rw [u47]
          exact m4 j hj) (by rw [u47]; exact m5)
      refine ⟨I r, sfX u4 24 g1, saM (sfM (saM v 5 (10 * k + 8).toNat (I (rowk rw k 8 - 0))) 10 g2) 5 (10 * k + 8).toNat (I (rowk rw k 8)), ?_, ?_, hh.keep (t2.trans (KX_sf _ _ (by omega))) ((((hV0.set _).sf g2).set _).done hr q1.1 q1.2 hn2)⟩
      · rw [show mX10_allNotesHold_h2 NF NF u4 (I 0) = _ from c1, bp_some]
        rcases r01 with rfl | rfl
        · exact if_pos rfl
        · exact if_neg (by decide)
      · obtain ⟨N', hN'⟩ : ∃ g, NF = g + 1 + 1 := ⟨NF - 2, by omega⟩
        have key : ∀ f, mM_lost_h29 NF (f + 1 + 1) v (I k) (I (rowk rw k 8)) (I 0) (I 0) = some (I r, saM (sfM (saM v 5 (10 * k + 8).toNat (I (rowk rw k 8 - 0))) 10 g2) 5 (10 * k + 8).toNat (I (rowk rw k 8))) := by
          intro f
          show mM_lost_29 NF _ _ _ _ _ _ = _
          unfold mM_lost_29 mM_lost_54 mM_lost_86 mM_areSo
          simp only [nm]
          have st : ∀ x : Int32, mM_lost_h29 NF (f + 1) (sfM (saM v 5 (10 * k + 8).toNat (I (rowk rw k 8 - 0))) 10 g2) (I k) (I (rowk rw k 8)) x (I 1) = some (x, saM (sfM (saM v 5 (10 * k + 8).toNat (I (rowk rw k 8 - 0))) 10 g2) 5 (10 * k + 8).toNat (I (rowk rw k 8))) := by
            intro x
            show mM_lost_29 NF _ _ _ _ _ _ = _
            unfold mM_lost_29 mM_lost_94
            simp only [nm]
            have hV3 := ((hV0.set (rowk rw k 8 - 0)).sf g2).mst hM' q1.1 q1.2 (by have := hs k q1.1 q1.2; omega) (by have := hs k q1.1 q1.2; omega)
            have h50 := hV3.1 (10 * k) (by omega) (by omega)
            have e0 : rwS rw k (rowk rw k 8 - 0) (10 * k) = rowk rw k 0 := by
              unfold rwS rowk
              rw [if_neg (by omega), Int.add_zero]
            rw [e0, q2] at h50
            simp (disch := omega) only [I_lit, I_le, I_eq, I_mul, I_add, wr_I, rd_I, h50]
            rw [if_neg (by omega), if_neg (by omega), if_pos trivial]
          simp (disch := omega) only [I_lit, I_le, I_eq, I_mul, I_add, I_sub, wr_I, sh_eq, or_0]
          rw [if_neg (by omega), if_pos trivial, show mM_areSo_h4 NF NF (saM v 5 (10 * k + 8).toNat (I (rowk rw k 8 - 0))) (I 1) (I 0) = _ from c2, bp_some, show (0 : Int) + 1 = 1 from rfl, st, st]
          rcases r01 with rfl | rfl
          · exact if_pos rfl
          · exact (if_neg (by decide)).trans rfl
        have := key N'
        rw [← hN'] at this
        exact this
    · rw [if_pos q2, if_pos (by omega)]
      have e : rwS rw k (rowk rw k 8) = rw := by
        funext z
        unfold rwS
        split
        · rename_i q
          rw [q]
          rfl
        · rfl
      have h8 := hs k q1.1 q1.2
      obtain ⟨r, u', v', c1, c2, c3, c4⟩ := lost_l (b := b) (v0 := v) m1 hs q1.1 q1.2 hM' m3 q2 (v.2.1 22) rfl 10 NF NF 0 (rowk rw k 8) (I 0) u4 v (by omega) (by omega) (by omega) (by omega) (by omega) (by omega) (hX'.keep t2) (by rw [e]; exact t3) hV0 u4n (fun j hj => by
        rw [u47]
        exact m4 j hj) (by rw [u47]; exact m5)
      exact ⟨r, u', v', c1, c2, hh.keep (t2.trans c3) (c4.done hr q1.1 q1.2 hn2)⟩
  · rw [if_neg q1, if_neg q1]
    exact ⟨_, _, _, rfl, rfl, hh⟩
