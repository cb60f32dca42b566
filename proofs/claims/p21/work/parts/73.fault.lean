/-! the fault of a text -/
def flt : List Nat → Bool → Nat → Nat → Option Nat
  | [], due, d, i => if due = true ∨ 0 < d then some i else none
  | c :: cs, true, d, i => if c = 40 ∧ d < 4 then flt cs true (d + 1) (i + 1) else if isV c = true then flt cs false d (i + 1) else if isF c = true then flt cs true d (i + 1) else some i
  | c :: cs, false, d, i => if c = 41 ∧ 0 < d then flt cs false (d - 1) (i + 1) else if 0 < bnd c then flt cs true d (i + 1) else some i
def fltI : Option Nat → Int32
  | none => -1
  | some k => nI k
theorem ff_44 {k6 : Int32 → Int32 → Int32 → Mem → Option Rv} {c i d : Nat} {M : Mem} (hc : c < 65536) : f_X2_findFault_44 k6 (nI 1) (nI d) (nI i) (nI c) M = if isV c = true then k6 (nI 0) (nI d) (nI (i + 1)) M else if isF c = true then k6 (nI 1) (nI d) (nI (i + 1)) M else some (nI i, M) := by
  unfold f_X2_findFault_44 f_X2_findFault_99
  simp only [isValue_ok hc, isInFront_ok hc, Option.bind_some, bI_0', nI_add]
  cases isV c <;> cases isF c <;> simp
theorem ff_84 {k6 : Int32 → Int32 → Int32 → Mem → Option Rv} {c i d : Nat} {M : Mem} (hc : c < 65536) : f_X2_findFault_84 k6 (nI d) (nI i) (nI c) M = if 0 < bnd c then k6 (nI 1) (nI d) (nI (i + 1)) M else some (nI i, M) := by
  unfold f_X2_findFault_84 f_X2_findFault_99
  simp only [isBetween_ok hc, Option.bind_some, bI_0', nI_add]
  by_cases h : 0 < bnd c
  · simp [h]
  · simp [h]
theorem ff_6 {L : Nat} (hL : L ≤ 60) {M : Mem} (h5 : M 22 5 = nI L) : ∀ (cs : List Nat) (due : Bool) (d i n : Nat), i + cs.length = L → cs.length < n → d ≤ 4 → (∀ j (h : j < cs.length), cs[j] < 65536 ∧ M 23 (i + j) = nI cs[j]) → f_X2_findFault_6 n (bI due) (nI d) (nI i) M = some (fltI (flt cs due d i), M) := by
  intro cs
  induction cs with
  | nil =>
    intro due d i n h1 h2 h3 h4
    have : i = L := by simpa using h1
    subst this
    obtain ⟨n, rfl⟩ : ∃ m, n = m + 1 := ⟨n - 1, by simp at h2; omega⟩
    rw [f_X2_findFault_6]
    unfold f_X2_findFault_113 f_X2_findFault_121 flt
    simp (disch := omega) only [h5, nlt, Nat.lt_irrefl, if_false, bI_0']
    cases due
    · by_cases hd : 0 < d
      · simp [hd, fltI]
      · simp [hd, fltI]
    · simp [fltI]
  | cons c cs ih =>
    intro due d i n h1 h2 h3 h4
    simp only [List.length_cons] at h1 h2
    obtain ⟨n, rfl⟩ : ∃ m, n = m + 1 := ⟨n - 1, by omega⟩
    obtain ⟨hc, h40⟩ := h4 0 (by simp)
    simp only [List.getElem_cons_zero, Nat.add_zero] at hc h40
    have h4' : ∀ j (h : j < cs.length), cs[j] < 65536 ∧ M 23 (i + 1 + j) = nI cs[j] := fun j hj => by
      have := h4 (j + 1) (by simp; omega)
      rw [show i + 1 + j = i + (j + 1) by omega]
      exact this
    have ihT := fun d (hd : d ≤ 4) => ih true d (i + 1) n (by omega) (by omega) hd h4'
    have ihF := fun d (hd : d ≤ 4) => ih false d (i + 1) n (by omega) (by omega) hd h4'
    rw [bI_t] at ihT
    rw [bI_f] at ihF
    rw [f_X2_findFault_6]
    unfold f_X2_findFault_99
    simp (disch := omega) only [h5, nlt, show i < L by omega, if_true, mrd_n, Option.bind_some, h40, bI_0', neq, nI_add, nsub]
    cases due
    · simp only [if_true, bI_f, ff_84 hc]
      unfold flt
      by_cases q : c = 41 ∧ 0 < d
      · rw [if_pos q.1, if_pos q.2, if_pos q, ihF (d - 1) (by omega)]
      · rw [if_neg q]
        have e : ∀ A B : Option Rv, (if c = 41 then if 0 < d then A else B else B) = B := fun A B => by
          by_cases q1 : c = 41
          · rw [if_pos q1, if_neg (fun q2 => q ⟨q1, q2⟩)]
          · rw [if_neg q1]
        rw [e]
        by_cases hb : 0 < bnd c
        · rw [if_pos hb, if_pos hb, ihT d h3]
        · rw [if_neg hb, if_neg hb]; rfl
    · simp only [Bool.true_eq_false, if_false, bI_t, ff_44 hc]
      unfold flt
      by_cases q : c = 40 ∧ d < 4
      · rw [if_pos q.1, if_pos q.2, if_pos q, ihT (d + 1) (by omega)]
      · rw [if_neg q]
        have e : ∀ A B : Option Rv, (if c = 40 then if d < 4 then A else B else B) = B := fun A B => by
          by_cases q1 : c = 40
          · rw [if_pos q1, if_neg (fun q2 => q ⟨q1, q2⟩)]
          · rw [if_neg q1]
        rw [e]
        by_cases hv : isV c = true
        · rw [if_pos hv, if_pos hv, ihF d h3]
        · rw [if_neg hv, if_neg hv]
          by_cases hf : isF c = true
          · rw [if_pos hf, if_pos hf, ihT d h3]
          · rw [if_neg hf, if_neg hf]; rfl
theorem findFault_ok {M : Mem} {cs : List Nat} (hl : cs.length ≤ 60) (h5 : M 22 5 = nI cs.length) (ht : ∀ i (h : i < cs.length), cs[i] < 65536 ∧ M 23 i = nI cs[i]) : f_X2_findFault M = some (fltI (flt cs true 0 0), M) :=
  ff_6 hl h5 cs true 0 0 fuelN (by omega) (by unfold fuelN; omega) (by omega) (fun j hj => by rw [Nat.zero_add]; exact ht j hj)
