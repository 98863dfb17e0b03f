def gW : List Cond := lw_tbl.filter goodWord
theorem gW_in {w : Cond} (i : Nat) (h : lw_tbl[i]? = some w) (g : goodWord w = true) : w ∈ gW := List.mem_filter.mpr ⟨List.mem_of_getElem? h, g⟩
theorem gW_good : ∀ w ∈ gW, (w.onTables && w.keeps) = true ∨ ∃ ty, w = .arrayClass ty := fun w h => good_of_word (List.mem_filter.mp h).2
theorem gW_tbl : ∀ w ∈ gW, w ∈ lw_tbl := fun w h => (List.mem_filter.mp h).1
abbrev wS (y : MethodName) (cc : ByteArray) (n : Nat) (r : Option FieldType) : List Cond := .code y cc n r :: gW
theorem gW_sub {Ts : List Cond} {y' : MethodName} {cc' : ByteArray} {n' : Nat} {r' : Option FieldType} (hT : ∀ w ∈ gW, w ∈ Ts) (h : Cond.code y' cc' n' r' ∈ gW) : GoodIn Ts (wS y' cc' n' r') := fun w hw => by
  rcases List.mem_cons.mp hw with rfl | hw
  · exact ⟨hT _ h, gW_good _ h⟩
  · exact ⟨hT _ hw, gW_good _ hw⟩
