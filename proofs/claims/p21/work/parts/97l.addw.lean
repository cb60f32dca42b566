theorem flt_le : ∀ (cs : List Nat) (due : Bool) (d i k : Nat), flt cs due d i = some k → k ≤ i + cs.length := by
  intro cs
  induction cs with
  | nil =>
    intro due d i k h
    unfold flt at h
    split at h
    · have := Option.some.inj h
      simp only [List.length_nil]; omega
    · cases h
  | cons c cs ih =>
    intro due d i k h
    rw [List.length_cons]
    have fin : ∀ (b : Bool) (e : Nat), flt cs b e (i + 1) = some k → k ≤ i + (cs.length + 1) := fun b e q => by
      have := ih b e (i + 1) k q
      omega
    have fin2 : some i = some k → k ≤ i + (cs.length + 1) := fun q => by
      have := Option.some.inj q
      omega
    cases due with
    | true =>
      unfold flt at h
      split at h
      · exact fin _ _ h
      · split at h
        · exact fin _ _ h
        · split at h
          · exact fin _ _ h
          · exact fin2 h
    | false =>
      unfold flt at h
      split at h
      · exact fin _ _ h
      · split at h
        · exact fin _ _ h
        · exact fin2 h
