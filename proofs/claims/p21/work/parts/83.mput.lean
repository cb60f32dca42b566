def FPut (M M' : Mem) : Prop := (∀ c, c ≠ 218 → c ≠ 230 → M' c = M c) ∧ ∀ i, i ≠ 14 → i ≠ 15 → M' 218 i = M 218 i
theorem FPut.rfl' (M : Mem) : FPut M M := ⟨fun _ _ _ => rfl, fun _ _ _ => rfl⟩
theorem FPut.tr {A B C : Mem} (h : FPut A B) (g : FPut B C) : FPut A C := ⟨fun c a b => by rw [g.1 c a b, h.1 c a b], fun i a b => by rw [g.2 i a b, h.2 i a b]⟩
theorem mpz_b (M : Mem) (c k : Nat) (b : Bool) : mpz M c k (bI b) = some (mwr M c k (bI b)) := by
  unfold mpz
  cases b <;> exact if_pos (by decide)
theorem mpz_0 (M : Mem) (c k : Nat) : mpz M c k (nI 0) = some (mwr M c k (bI false)) := mpz_b M c k false
theorem mpz_1 (M : Mem) (c k : Nat) : mpz M c k (nI 1) = some (mwr M c k (bI true)) := mpz_b M c k true
