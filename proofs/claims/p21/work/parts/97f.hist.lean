theorem okA_act {a : Abs} {s : Sta} (hA : okA a) (hs : okS s) : okA (s, recd a.2.1 a.1, a.2.2) := by
  refine ⟨hs, ?_, fun x hx => ?_, hA.2.2.2⟩
  · have := recd_len (h := a.2.1) (s := a.1) hA.2.1
    dsimp only
    rw [this]
    have := hA.2.1
    split <;> omega
  · rcases recd_mem hx with h | h
    · exact hA.2.2.1 x h
    · rw [h]; exact hA.1
/-! a state with one wish changed -/
def setW (s : Sta) (k : Nat) (w : Wsh) : Sta := (s.1, s.2.1, s.2.2.set k w)
theorem okS_setW {s : Sta} {k : Nat} {w : Wsh} (hs : okS s) (hw : okW w) : okS (setW s k w) := by
  refine ⟨hs.1, hs.2.1, by show (s.2.2.set k w).length ≤ 8; rw [List.length_set]; exact hs.2.2.1, fun x hx => ?_⟩
  rcases List.mem_or_eq_of_mem_set hx with h | h
  · exact hs.2.2.2 x h
  · rw [h]; exact hw
theorem RC.setW {M M' : Mem} {c k : Nat} {s : Sta} {w : Wsh} (h : RC M c s) (hs : okS s) (hw : RCw M' (c + 3 + 3 * k) w) (hm : ∀ d, c ≤ d → d < c + 27 → d ≠ c + 3 + 3 * k → d ≠ c + 3 + 3 * k + 1 → d ≠ c + 3 + 3 * k + 2 → M' d = M d) : RC M' c (setW s k w) := by
  obtain ⟨a, b, e, f, g⟩ := h
  have h8 := hs.2.2.1
  refine ⟨by rw [hm c (by omega) (by omega) (by omega) (by omega) (by omega)]; exact a, by rw [hm c (by omega) (by omega) (by omega) (by omega) (by omega)]; exact b, by rw [hm c (by omega) (by omega) (by omega) (by omega) (by omega)]; show M c 2 = nI (s.2.2.set k w).length; rw [List.length_set]; exact e, fun i hi => by rw [hm (c + 1) (by omega) (by omega) (by omega) (by omega) (by omega)]; exact f i hi, fun j hj => ?_⟩
  have hj' : j < s.2.2.length := by rw [← List.length_set (a := w) (i := k)]; exact hj
  have hj2 : j < (s.2.2.set k w).length := hj
  suffices fin : RCw M' (c + 3 + 3 * j) ((s.2.2.set k w)[j]'hj2) from fin
  by_cases q : k = j
  · subst q
    rw [List.getElem_set_self]
    exact hw
  · rw [List.getElem_set_ne q]
    exact (g j hj').congr (hm _ (by omega) (by omega) (by omega) (by omega) (by omega)) (hm _ (by omega) (by omega) (by omega) (by omega) (by omega)) (hm _ (by omega) (by omega) (by omega) (by omega) (by omega))
