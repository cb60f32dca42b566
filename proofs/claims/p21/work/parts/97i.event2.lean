/-- the state after an event -/
def evF (set : Nat) (s : Sta) : Sta := (s.1, s.2.1 ++ [set], s.2.2.map (evW set (nI s.2.1.length)))
theorem evF_ok {set : Nat} {s : Sta} (hs : okS s) (hset : set < 64) (hl : s.2.1.length < 40) : okS (evF set s) := by
  have h := evS_ok (set := set) hs s.2.2.length
  unfold evS at h
  rw [pW_all] at h
  refine ⟨by show (s.2.1 ++ [set]).length ≤ 40; rw [List.length_append]; simp; omega, fun e he => ?_, h.2.2.1, h.2.2.2⟩
  rcases List.mem_append.mp he with he | he
  · exact hs.2.1 e he
  · rw [List.mem_singleton.mp he]; exact hset
