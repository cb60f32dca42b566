theorem lt_toInt {x y : Int32} : (x < y) ↔ x.toInt < y.toInt := Int32.lt_iff_toInt_lt
theorem bI_1 (a : Bool) : (bI a = nI 1) = (a = true) := by apply propext; cases a <;> decide
def thk (s : Sta) (k : Nat) : Bool := match s.2.2[k]? with | some w => w.1 | none => false
theorem thk_in {s : Sta} {k : Nat} (h : k < s.2.2.length) : thk s k = s.2.2[k].1 := by unfold thk; rw [List.getElem?_eq_getElem h]
