theorem AR_two {t : T} (h : AR t = true) (hk : 18 ≤ kind t) : 2 ≤ nkid t := by
  show 2 ≤ (kids t).length
  rcases AR_kind h with q | q | ⟨-, x, y, e⟩ | ⟨-, x, y, l, e⟩
  · omega
  · omega
  · rw [e]; simp
  · rw [e]; simp
