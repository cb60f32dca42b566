/-! THE RELATION HOLDS AT THE START, AND EVERY CALL KEEPS IT -/
theorem sgn0 {k : Nat} (h : k < 16) : sgn (lf k) = if k < 4 then 0 else 2 ^ ((k - 4) % 6) := by
  unfold sgn lf
  rw [tfold_nd, if_pos h]
theorem attr0 {id : Nat} (h : id < 16) : attr MC0 id (lf id) := by
  have : id = 0 ∨ id = 1 ∨ id = 2 ∨ id = 3 ∨ id = 4 ∨ id = 5 ∨ id = 6 ∨ id = 7 ∨ id = 8 ∨ id = 9 ∨ id = 10 ∨ id = 11 ∨ id = 12 ∨ id = 13 ∨ id = 14 ∨ id = 15 := by omega
  have e1 := sgn0 h
  have e2 := tae_leaf id h
  unfold attr
  rw [e1, e2]
  rcases this with rfl | rfl | rfl | rfl | rfl | rfl | rfl | rfl | rfl | rfl | rfl | rfl | rfl | rfl | rfl | rfl <;> exact ⟨by decide, by decide, by decide, by decide, by decide, by decide⟩
theorem FT0 : FT MC0 [] := by
  refine ⟨⟨List.nodup_nil, (fun _ h => by cases h)⟩, by decide, by decide, by decide, by decide, fun id hid => ?_, (fun i h => by cases h), (fun i h => by cases h), (fun i h => by cases h), fun p hp => ?_⟩
  · have hid' : id < 16 := hid
    rw [dn_lf hid']
    exact attr0 hid'
  · show MC0 10 p = nI (prv MC0 16 p)
    rcases prv_spec MC0 16 p with ⟨e, -⟩ | ⟨a, b, -⟩
    · rw [e]; rfl
    · omega
def S0 : Sta := (false, [], [])
def A0 : Abs := (S0, [], none, [])
theorem okS0 : okS S0 := ⟨by decide, (fun e h => by cases h), by decide, (fun w h => by cases h)⟩
theorem okA0 : okA A0 := ⟨okS0, by decide, (fun s h => by cases h), (fun s h => by cases h), by decide, (fun c h => by cases h)⟩
theorem RC0 : RC MC0 56 S0 := ⟨by decide, by decide, by decide, (fun i h => by cases h), (fun k h => by cases h)⟩
theorem sq0 {c : Nat} (h : c = 56 ∨ c = 83 ∨ c = 110 ∨ c = 137 ∨ c = 164 ∨ c = 191) : isSq c := ⟨by unfold isSc; omega, by omega⟩
theorem CEL0 : CEL MC0 56 83 (fun i => 110 + 27 * i) := by
  refine ⟨by decide, by decide, fun i hi => ?_, sq0 (by omega), sq0 (by omega), fun i hi => sq0 (c := 110 + 27 * i) (by omega), by omega, fun i hi => ⟨by show 110 + 27 * i ≠ 56; omega, by show 110 + 27 * i ≠ 83; omega⟩, fun i j hi hj hij => by show 110 + 27 * i ≠ 110 + 27 * j; omega⟩
  have : i = 0 ∨ i = 1 ∨ i = 2 ∨ i = 3 := by omega
  rcases this with rfl | rfl | rfl | rfl
  · show MC0 28 0 = nI 110; decide
  · show MC0 28 1 = nI 137; decide
  · show MC0 28 2 = nI 164; decide
  · show MC0 28 3 = nI 191; decide
