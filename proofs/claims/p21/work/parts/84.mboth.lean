def FB (M M' : Mem) : Prop := (∀ c, c = 219 ∨ c = 220 ∨ c = 221 ∨ c = 227 ∨ c = 228 ∨ 231 ≤ c → M' c = M c) ∧ ∀ i, 16 ≤ i → M' 218 i = M 218 i
theorem FB.rfl' (M : Mem) : FB M M := ⟨fun _ _ => rfl, fun _ _ => rfl⟩
theorem FB.tr {A B C : Mem} (h : FB A B) (g : FB B C) : FB A C := ⟨fun c hc => by rw [g.1 c hc, h.1 c hc], fun i hi => by rw [g.2 i hi, h.2 i hi]⟩
