def oX0 (ad : Nat → Nat) : (Nat → Int32) → List Value := fun m => [.ref (ad 1), .ref (ad 14), .ref (ad 15), .ref (ad 16), .int (m 4), .int (m 5), .int (m 6)]
def oX1 (ad : Nat → Nat) : (Nat → Int32) → List Value := fun m => [.ref (ad 2), .ref (ad 3), .ref (ad 4), .ref (ad 5), .ref (ad 6), .ref (ad 7), .ref (ad 8), .ref (ad 9), .ref (ad 10), .ref (ad 11), .ref (ad 12), .int (m 11), .int (m 12)]
def oX2 (ad : Nat → Nat) : (Nat → Int32) → List Value := fun m => [.ref (ad 1), .ref (ad 13), .ref (ad 23), .ref (ad 24), .ref (ad 25), .int (m 5), .int (m 6), .int (m 7)]
def oX3 (ad : Nat → Nat) : (Nat → Int32) → List Value := fun m => [.ref (ad 1), .ref (ad 18), .ref (ad 19), .ref (ad 20), .ref (ad 21), .int (m 5), .int (m 6)]
def oX4 (ad : Nat → Nat) (c : Nat) : (Nat → Int32) → List Value := fun m => [.int (m 0), .int (m 1), .int (m 2), .ref (ad (c + 1)), .ref (ad (c + 2))]
def oX5 (ad : Nat → Nat) (c : Nat) : (Nat → Int32) → List Value := fun m => [.int (m 0), .int (m 1), .int (m 2), .int (m 3), .int (m 4), .int (m 5), .ref (ad (c + 1)), .ref (ad (c + 2))]
def oX6 (ad : Nat → Nat) : (Nat → Int32) → List Value := fun m => [.ref (ad 1), .ref (ad 13), .ref (ad 17), .ref (ad 22), .ref (ad 26), .ref (ad 27), .ref (ad 28), .ref (ad 29), .ref (ad (m 8).toNatClampNeg), .ref (ad (m 9).toNatClampNeg), .int (m 10), .int (m 11)]
def dfE : (Nat → Int32) → va_E := fun _ => .inr (0, [])
def SL (ad : Nat → Nat) (tc : Nat → ClassId) : List ((Nat → Int32) → va_E) := [fun m => .inr (6, oX6 ad m),
  fun m => .inr (1, oX1 ad m),
  fun m => .inl (tc 0, 2048, .inl m),
  fun m => .inl (tc 0, 2048, .inl m),
  fun m => .inl (tc 0, 2048, .inl m),
  fun m => .inl (tc 0, 2048, .inl m),
  fun m => .inl (tc 0, 2048, .inl m),
  fun m => .inl (tc 1, 2048, .inl m),
  fun m => .inl (tc 2, 2048, .inl m),
  fun m => .inl (tc 0, 8192, .inl m),
  fun m => .inl (tc 0, 512, .inl m),
  fun m => .inl (tc 0, 2048, .inl m),
  fun m => .inl (tc 0, 2048, .inl m),
  fun m => .inr (0, oX0 ad m),
  fun m => .inl (tc 0, 2048, .inl m),
  fun m => .inl (tc 0, 2048, .inl m),
  fun m => .inl (tc 0, 2, .inl m),
  fun m => .inr (3, oX3 ad m),
  fun m => .inl (tc 0, 120, .inl m),
  fun m => .inl (tc 2, 360, .inl m),
  fun m => .inl (tc 2, 120, .inl m),
  fun m => .inl (tc 0, 120, .inl m),
  fun m => .inr (2, oX2 ad m),
  fun m => .inl (tc 2, 60, .inl m),
  fun m => .inl (tc 0, 60, .inl m),
  fun m => .inl (tc 2, 60, .inl m),
  fun m => .inl (tc 0, 64, .inl m),
  fun m => .inl (tc 0, 64, .inl m),
  fun m => .inl (tc 3, 4, .inr (.inr (.inr (.inr (fun j => some (ad (m j).toNatClampNeg))))))]
def stb (ad : Nat → Nat) (tc : Nat → ClassId) (c : Nat) (m : Nat → Int32) : va_E :=
  if (c - 29) % 27 = 0 then .inr (4, oX4 ad c m) else if (c - 29) % 27 = 1 then .inl (tc 0, 40, .inl m) else if (c - 29) % 27 = 2 then .inl (tc 4, 8, .inr (.inr (.inr (.inr (fun j => some (ad (c + 1 + 3 * j))))))) else if (c - 29) % 27 % 3 = 0 then .inr (5, oX5 ad c m) else if (c - 29) % 27 % 3 = 1 then .inl (tc 0, 8, .inl m) else .inl (tc 0, 960, .inl m)
def EE (ad : Nat → Nat) (tc : Nat → ClassId) (MC MM : Mem) (c : Nat) : va_E := if c < 29 then (SL ad tc).getD c dfE (MC c) else stb ad tc c (MC c)
/-- the class's view of the world (no second object here: MM is idle) -/
def EC (G : GL) (ad : Nat → Nat) (MM : Mem) : Mem → Nat → va_E := fun M c => EE ad G.2.1 M MM c
theorem locC {G : GL} {ad : Nat → Nat} {MM : Mem} : LocE (EC G ad MM) := fun M M' c h => by unfold EC EE; rw [h]
section WORLD
variable {G : GL} {ad : Nat → Nat} {MM : Mem}
theorem io_0 : isO (EC G ad MM) 0 6 (oX6 ad) := ⟨by decide, fun _ => rfl⟩
theorem io_1 : isO (EC G ad MM) 1 1 (oX1 ad) := ⟨by decide, fun _ => rfl⟩
theorem ia_2 : isA G (EC G ad MM) 2 2048 0 := ⟨by decide, fun _ => rfl⟩
theorem ia_3 : isA G (EC G ad MM) 3 2048 0 := ⟨by decide, fun _ => rfl⟩
theorem ia_4 : isA G (EC G ad MM) 4 2048 0 := ⟨by decide, fun _ => rfl⟩
theorem ia_5 : isA G (EC G ad MM) 5 2048 0 := ⟨by decide, fun _ => rfl⟩
theorem ia_6 : isA G (EC G ad MM) 6 2048 0 := ⟨by decide, fun _ => rfl⟩
theorem ia_7 : isA G (EC G ad MM) 7 2048 1 := ⟨by decide, fun _ => rfl⟩
theorem ia_8 : isA G (EC G ad MM) 8 2048 2 := ⟨by decide, fun _ => rfl⟩
theorem ia_9 : isA G (EC G ad MM) 9 8192 0 := ⟨by decide, fun _ => rfl⟩
theorem ia_10 : isA G (EC G ad MM) 10 512 0 := ⟨by decide, fun _ => rfl⟩
theorem ia_11 : isA G (EC G ad MM) 11 2048 0 := ⟨by decide, fun _ => rfl⟩
theorem ia_12 : isA G (EC G ad MM) 12 2048 0 := ⟨by decide, fun _ => rfl⟩
theorem io_13 : isO (EC G ad MM) 13 0 (oX0 ad) := ⟨by decide, fun _ => rfl⟩
theorem ia_14 : isA G (EC G ad MM) 14 2048 0 := ⟨by decide, fun _ => rfl⟩
theorem ia_15 : isA G (EC G ad MM) 15 2048 0 := ⟨by decide, fun _ => rfl⟩
theorem ia_16 : isA G (EC G ad MM) 16 2 0 := ⟨by decide, fun _ => rfl⟩
theorem io_17 : isO (EC G ad MM) 17 3 (oX3 ad) := ⟨by decide, fun _ => rfl⟩
theorem ia_18 : isA G (EC G ad MM) 18 120 0 := ⟨by decide, fun _ => rfl⟩
theorem ia_19 : isA G (EC G ad MM) 19 360 2 := ⟨by decide, fun _ => rfl⟩
theorem ia_20 : isA G (EC G ad MM) 20 120 2 := ⟨by decide, fun _ => rfl⟩
theorem ia_21 : isA G (EC G ad MM) 21 120 0 := ⟨by decide, fun _ => rfl⟩
theorem io_22 : isO (EC G ad MM) 22 2 (oX2 ad) := ⟨by decide, fun _ => rfl⟩
theorem ia_23 : isA G (EC G ad MM) 23 60 2 := ⟨by decide, fun _ => rfl⟩
theorem ia_24 : isA G (EC G ad MM) 24 60 0 := ⟨by decide, fun _ => rfl⟩
theorem ia_25 : isA G (EC G ad MM) 25 60 2 := ⟨by decide, fun _ => rfl⟩
theorem ia_26 : isA G (EC G ad MM) 26 64 0 := ⟨by decide, fun _ => rfl⟩
theorem ia_27 : isA G (EC G ad MM) 27 64 0 := ⟨by decide, fun _ => rfl⟩
theorem iq_28 : isQ G (EC G ad MM) 28 4 3 (fun m j => some (ad (m j).toNatClampNeg)) := ⟨by decide, fun _ => rfl⟩
theorem isSb_iff {c : Nat} (h : isSb c = true) : 29 ≤ c ∧ c < 218 ∧ (c - 29) % 27 = 0 := by
  unfold isSb at h
  simp only [Bool.and_eq_true] at h
  exact ⟨Nat.ble_eq.mp h.1.1, Nat.blt_eq.mp h.1.2, Nat.beq_eq.mp h.2⟩
theorem isWb_iff {c : Nat} (h : isWb c = true) : 29 ≤ c ∧ c < 218 ∧ 3 ≤ (c - 29) % 27 ∧ (c - 29) % 27 % 3 = 0 := by
  unfold isWb at h
  simp only [Bool.and_eq_true] at h
  exact ⟨Nat.ble_eq.mp h.1.1.1, Nat.blt_eq.mp h.1.1.2, Nat.ble_eq.mp h.1.2, Nat.beq_eq.mp h.2⟩
theorem isWb_of {c : Nat} (h : 29 ≤ c ∧ c < 218 ∧ 3 ≤ (c - 29) % 27 ∧ (c - 29) % 27 % 3 = 0) : isWb c = true := by
  unfold isWb
  simp only [Bool.and_eq_true]
  exact ⟨⟨⟨Nat.ble_eq.mpr h.1, Nat.blt_eq.mpr h.2.1⟩, Nat.ble_eq.mpr h.2.2.1⟩, Nat.beq_eq.mpr h.2.2.2⟩
theorem mlW_is {c d : Nat} {w : Int32} (hc : isSb c = true) (h : mlW c w = some d) : isWb d = true := by
  obtain ⟨h1, h2, h3⟩ := isSb_iff hc
  unfold mlW at h
  split at h
  next => cases h
  next hn =>
    cases h
    have h4 : w.toNatClampNeg < 8 := Nat.not_le.mp (fun q => hn (Or.inr q))
    exact isWb_of ⟨by omega, by omega, by omega, by omega⟩
theorem EC_mid {M : Mem} {c : Nat} (h1 : 29 ≤ c) (h2 : c < 218) : EC G ad MM M c = stb ad G.2.1 c (M c) := by
  unfold EC EE
  rw [if_neg (by omega)]
theorem io_S {c : Nat} (h : isSb c = true) : isO (EC G ad MM) c 4 (oX4 ad c) := by
  obtain ⟨h1, h2, h3⟩ := isSb_iff h
  refine ⟨by unfold NC; omega, fun M => ?_⟩
  rw [EC_mid h1 h2]
  unfold stb
  rw [if_pos h3]
theorem ia_S1 {c : Nat} (h : isSb c = true) : isA G (EC G ad MM) (c + 1) 40 0 := by
  obtain ⟨h1, h2, h3⟩ := isSb_iff h
  refine ⟨by unfold NC; omega, fun M => ?_⟩
  rw [EC_mid (by omega) (by omega)]
  unfold stb
  rw [if_neg (by omega), if_pos (by omega)]
theorem iq_S2 {c : Nat} (h : isSb c = true) : isQ G (EC G ad MM) (c + 2) 8 4 (fun _ j => some (ad (c + 3 + 3 * j))) := by
  obtain ⟨h1, h2, h3⟩ := isSb_iff h
  refine ⟨by unfold NC; omega, fun M => ?_⟩
  rw [EC_mid (by omega) (by omega)]
  unfold stb
  rw [if_neg (by omega), if_neg (by omega), if_pos (by omega)]
theorem io_W {c : Nat} (h : isWb c = true) : isO (EC G ad MM) c 5 (oX5 ad c) := by
  obtain ⟨h1, h2, h3, h4⟩ := isWb_iff h
  refine ⟨by unfold NC; omega, fun M => ?_⟩
  rw [EC_mid h1 h2]
  unfold stb
  rw [if_neg (by omega), if_neg (by omega), if_neg (by omega), if_pos h4]
theorem ia_W1 {c : Nat} (h : isWb c = true) : isA G (EC G ad MM) (c + 1) 8 0 := by
  obtain ⟨h1, h2, h3, h4⟩ := isWb_iff h
  refine ⟨by unfold NC; omega, fun M => ?_⟩
  rw [EC_mid (by omega) (by omega)]
  unfold stb
  rw [if_neg (by omega), if_neg (by omega), if_neg (by omega), if_neg (by omega), if_pos (by omega)]
theorem ia_W2 {c : Nat} (h : isWb c = true) : isA G (EC G ad MM) (c + 2) 960 0 := by
  obtain ⟨h1, h2, h3, h4⟩ := isWb_iff h
  refine ⟨by unfold NC; omega, fun M => ?_⟩
  rw [EC_mid (by omega) (by omega)]
  unfold stb
  rw [if_neg (by omega), if_neg (by omega), if_neg (by omega), if_neg (by omega), if_neg (by omega)]
/-- the rows that Forms.make may be given -/
def isRb (a : Nat) : Bool := Nat.beq a 15 || Nat.beq a 16 || Nat.beq a 18
def rlen (a : Nat) : Nat := if a = 15 then 2048 else if a = 16 then 2 else 120
theorem ia_R {a : Nat} (h : isRb a = true) : isA G (EC G ad MM) a (rlen a) 0 := by
  unfold isRb at h
  simp only [Bool.or_eq_true] at h
  rcases h with (h | h) | h
  · rw [Nat.beq_eq.mp h]; exact ia_15
  · rw [Nat.beq_eq.mp h]; exact ia_16
  · rw [Nat.beq_eq.mp h]; exact ia_18
theorem isSb_29 : isSb 29 = true := by decide
end WORLD
