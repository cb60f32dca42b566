def FRm (M M' : Mem) : Prop := (∀ c, c = 219 ∨ c = 220 ∨ c = 221 ∨ 233 ≤ c → M' c = M c) ∧ ∀ i, 20 ≤ i → M' 218 i = M 218 i
theorem FRm.rfl' (M : Mem) : FRm M M := ⟨fun _ _ => rfl, fun _ _ => rfl⟩
theorem FRm.tr {A B C : Mem} (h : FRm A B) (g : FRm B C) : FRm A C := ⟨fun c hc => by rw [g.1 c hc, h.1 c hc], fun i hi => by rw [g.2 i hi, h.2 i hi]⟩
