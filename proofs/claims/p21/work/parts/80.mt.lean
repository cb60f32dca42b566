/-- what a making leaves as it was -/
def FMk (M M' : Mem) : Prop := (∀ c, c = 219 ∨ c = 220 ∨ c = 221 ∨ c = 227 ∨ c = 228 ∨ 230 ≤ c → M' c = M c) ∧ ∀ i, 13 ≤ i → M' 218 i = M 218 i
theorem FMk.rfl' (M : Mem) : FMk M M := ⟨fun _ _ => rfl, fun _ _ => rfl⟩
theorem FMk.tr {A B C : Mem} (h : FMk A B) (g : FMk B C) : FMk A C := ⟨fun c hc => by rw [g.1 c hc, h.1 c hc], fun i hi => by rw [g.2 i hi, h.2 i hi]⟩
