def brm {α : Type} (b : BSt) (i : Int32) (K : BSt → Option α) : Option α := match b with
  | none => none
  | some x => if 0 < x.2.1 ∧ x.2.1 ≤ 10 ∧ i.toInt + 1 = x.2.1 then K (some (x.1, x.2.1 - 1, x.2.2)) else none
theorem va_P.left {D : va_G} {cl : List vw_C} {w v : va_W} {H : Heap} (h : va_P D cl (w ++ v) H) : va_P D cl w H := fun k q hk => h k q (by rw [List.getElem?_append_left (List.getElem?_eq_some_iff.mp hk).1]; exact hk)
theorem va_D.left {A : Nat → Prop} {w v : va_W} (h : va_D A (w ++ v)) : va_D A w :=
  ⟨fun i j p q hi hj => h.1 i j p q (by rw [List.getElem?_append_left (List.getElem?_eq_some_iff.mp hi).1]; exact hi) (by rw [List.getElem?_append_left (List.getElem?_eq_some_iff.mp hj).1]; exact hj), fun k q hk => h.2 k q (by rw [List.getElem?_append_left (List.getElem?_eq_some_iff.mp hk).1]; exact hk)⟩
theorem elX_drop (n : Nat) (bv : Nat → BV) : va_up (elX (n + 1) bv) n none = elX n bv := by
  funext j
  unfold va_up elX
  by_cases h : j = n
  · subst h
    rw [if_pos rfl, if_neg (Nat.lt_irrefl _)]
  · rw [if_neg h]
    by_cases h2 : j < n
    · rw [if_pos (by omega), if_pos h2]
    · rw [if_neg (by omega), if_neg h2]
theorem wX_head {cI cO cR : ClassId} {q : Nat → Nat} {t0 : Nat} {u : USt} (x : Nat × Nat × (Nat → BV)) : ∃ l : va_W, l.length = 44 ∧ ∀ (n : Nat) (bv : Nat → BV), wX cI cO cR q t0 u (some (x.1, n, bv)) = l ++ ((x.1, .inl (cO, 10, .inr (.inr (.inr (.inr (elX n bv)))))) :: bL cI n bv) := ⟨fX cI cR q x.1 u, rfl, fun _ _ => rfl⟩
section RM
variable {l : Launch} {R : Room} {D : va_G} {cI cO cR : ClassId} {q : Nat → Nat} {t0 : Nat} {u : USt} {b : BSt} {G : Gx} {cc : ByteArray} {nL : Nat} {own : String} {cs : Nat × Nat} {lv : List (Nat × Value)} {st : List Value} {pc : Nat} {β : Type} {rr : β}
theorem jX_rm {i : Int32} {K : BSt → Option β} (C : jC l R D (tX cI cO cR) G cc nL own) (d : decode cc pc = .ok (.aastore, 1)) (hm : brm b i K = some rr) (kk : ∀ b' : BSt, K b' = some rr → J l R D G cs (wX cI cO cR q t0 u b') lv st (pc + 1)) : J l R D G cs (wX cI cO cR q t0 u b) lv (.null :: .int i :: .ref (bQ t0 b) :: st) pc := by
  cases b with
  | none => cases hm
  | some x =>
    obtain ⟨qe, n, bv⟩ := x
    unfold brm at hm
    dsimp only at hm
    split at hm
    · rename_i hi
      obtain ⟨n, rfl⟩ : ∃ k, n = k + 1 := ⟨n - 1, by omega⟩
      have kk := kk _ hm
      have hin : vp_in i 10 := vp_in_iff.mpr (by omega)
      have hc : i.toNatClampNeg = n := by
        have h1 : ((i.toNatClampNeg : Nat) : Int) = i.toInt := Int.toNat_of_nonneg (by omega)
        omega
      obtain ⟨p, e, s, m, args, below, meth, c, A, nL', Q⟩ := G
      obtain ⟨a1, a2, a3, a4, a5, a6, a7, a8⟩ := C
      intro H locs ls g1 g2 g3 g4
      obtain ⟨w, hw, hwe⟩ := wX_head (cI := cI) (cO := cO) (cR := cR) (q := q) (t0 := t0) (u := u) (qe, n + 1, bv)
      have e1 : (wX cI cO cR q t0 u (some (qe, n + 1, bv))).set 44 (qe, .inl (cO, 10, .inr (.inr (.inr (.inr (va_up (elX (n + 1) bv) i.toNatClampNeg none)))))) = wX cI cO cR q t0 u (some (qe, n, bv)) ++ [bCell (bv n), eCell cI (bv n)] := by
        rw [hc, elX_drop, hwe (n + 1) bv, hwe n bv, List.set_append_right _ _ (by omega), hw]
        show w ++ ((qe, .inl (cO, 10, .inr (.inr (.inr (.inr (elX n bv)))))) :: (bL cI n bv ++ [bCell (bv n), eCell cI (bv n)])) = _
        rw [List.append_assoc]
        rfl
      refine va_astqN a1 a2 a7.1 g1 g2 g3 44 1 rfl rfl hin d (fun H1 locs1 b1 b2 b3 => ?_)
      rw [e1] at b1 b2
      exact kk H1 locs1 ls b1.left b2.left b3 g4
    · cases hm
end RM
