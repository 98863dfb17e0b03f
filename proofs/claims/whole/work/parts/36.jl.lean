section JL
variable {l : Launch} {R : Room} {D : va_G} {tys : List (ClassId × FieldType)} {G : Gx} {cc : ByteArray} {nL : Nat} {own : String} {cs : Nat × Nat} {ws : va_W} {lv : List (Nat × Value)} {st : List Value} {pc : Nat} {β : Type} {rr : β}
theorem j_lookup {dflt : Int} {ps : Array (Int × Int)} {len : Nat} {x : Int32} {off : Int} {tgt : Nat} (C : jC l R D tys G cc nL own) (d : decode cc pc = .ok (.lookupswitch dflt ps, len)) (hp : (ps.toList.zip (ps.toList.drop 1)).all (fun (a, next) => a.1 < next.1) = true) (ho : Op.lookupswitch.offset ps.toList dflt x.toInt = off) (ht : (pc : Int) + off = (tgt : Int)) (kk : J l R D G cs ws lv st tgt) : J l R D G cs ws lv (.int x :: st) pc := by
  obtain ⟨p, e, s, m, args, below, meth, c, A, nL', Q⟩ := G
  obtain ⟨a1, a2, a5⟩ := C
  exact fun H locs ls g1 g2 g3 g4 => lv_lookup a1 a2 d hp ho ht (kk H locs ls g1 g2 g3 g4)
theorem j_lswK {dflt : Int} {ps : Array (Int × Int)} {len : Nat} {x k : Int32} {off : Int} {tgt : Nat} {p1 p2 : Option β} (C : jC l R D tys G cc nL own) (d : decode cc pc = .ok (.lookupswitch dflt ps, len)) (hp : (ps.toList.zip (ps.toList.drop 1)).all (fun (a, next) => a.1 < next.1) = true) (ho : Op.lookupswitch.offset ps.toList dflt k.toInt = off) (ht : (pc : Int) + off = (tgt : Int)) (hm : (if x = k then p1 else p2) = some rr) (kt : p1 = some rr → J l R D G cs ws lv st tgt) (kf : ¬ x = k → p2 = some rr → J l R D G cs ws lv (.int x :: st) pc) : J l R D G cs ws lv (.int x :: st) pc := by
  by_cases h : x = k
  · subst h
    exact j_lookup C d hp ho ht (kt (ip rfl hm))
  · exact kf h (im h hm)
theorem j_lswD {dflt : Int} {ps : Array (Int × Int)} {len : Nat} {x : Int32} {tgt : Nat} (C : jC l R D tys G cc nL own) (d : decode cc pc = .ok (.lookupswitch dflt ps, len)) (hp : (ps.toList.zip (ps.toList.drop 1)).all (fun (a, next) => a.1 < next.1) = true) (ho : Op.lookupswitch.offset ps.toList dflt x.toInt = dflt) (ht : (pc : Int) + dflt = (tgt : Int)) (kk : J l R D G cs ws lv st tgt) : J l R D G cs ws lv (.int x :: st) pc := j_lookup C d hp ho ht kk
theorem lsw_ne {x k : Int32} {n : Int} (h : ¬ x = k) (hk : k.toInt = n) : ¬ x.toInt = n := fun e => h (Int32.toInt_inj.mp (e.trans hk.symm))
theorem lsw_en {x k : Int32} {n : Int} (h : ¬ x = k) (hk : k.toInt = n) : ¬ n = x.toInt := fun e => h (Int32.toInt_inj.mp (e.symm.trans hk.symm))
end JL
