/-! THE LAW'S PROGRAM ANSWERS -/
theorem law_answers : ∀ (n : Nat) (xs : Nat → Int32), n ≤ 260 → ∃ r, f_L_law (n, xs) MC0 = some r := fun n xs h => law_ok (n, xs) h
