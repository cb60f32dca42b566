/-! open(): the rank of an open wish -/
def szw (s : Sta) (k : Nat) : Nat := match s.2.2[k]? with | some w => ssum (wP w) | none => 0
theorem szw_in {s : Sta} {k : Nat} (h : k < s.2.2.length) : szw s k = ssum (wP s.2.2[k]) := by unfold szw; rw [List.getElem?_eq_getElem h]
theorem szw_le {s : Sta} (hs : okS s) (k : Nat) : szw s k ≤ 960 := by
  rcases Nat.lt_or_ge k s.2.2.length with h | h
  · rw [szw_in h]; exact ssum_le (hs.2.2.2 _ (List.getElem_mem h)).2.2
  · unfold szw; rw [List.getElem?_eq_none h]; exact Nat.zero_le _
def ahd (s : Sta) (j k : Nat) : Bool := opn s j && (decide (szw s k < szw s j) || (decide (szw s j = szw s k) && decide (j < k)))
def rnk (s : Sta) (k : Nat) : Nat → Nat
  | 0 => 0
  | n + 1 => rnk s k n + one (ahd s n k)
theorem rnk_succ (s : Sta) (k n : Nat) : rnk s k (n + 1) = rnk s k n + one (ahd s n k) := rfl
theorem one_le (b : Bool) : one b ≤ 1 := by cases b <;> decide
theorem rnk_le (s : Sta) (k : Nat) : ∀ n, rnk s k n ≤ n := by
  intro n
  induction n with
  | zero => exact Nat.le_refl _
  | succ n ih =>
    rw [rnk_succ]
    have := one_le (ahd s n k)
    omega
theorem rnk_mono {s : Sta} {a b : Nat} (h : ∀ j, ahd s j a = true → ahd s j b = true) : ∀ n, rnk s a n ≤ rnk s b n := by
  intro n
  induction n with
  | zero => exact Nat.le_refl _
  | succ n ih =>
    rw [rnk_succ, rnk_succ]
    have : one (ahd s n a) ≤ one (ahd s n b) := by
      cases q : ahd s n a
      · exact Nat.zero_le _
      · rw [h n q]; exact Nat.le_refl _
    omega
theorem rnk_lt {s : Sta} {a b : Nat} (h : ∀ j, ahd s j a = true → ahd s j b = true) (ha : ahd s a a = false) (hb : ahd s a b = true) : ∀ n, a < n → rnk s a n < rnk s b n := by
  intro n
  induction n with
  | zero => intro q; omega
  | succ n ih =>
    intro q
    rw [rnk_succ, rnk_succ]
    by_cases e : a = n
    · subst e
      rw [ha, hb]
      have := rnk_mono h a
      show _ + 0 < _ + 1
      omega
    · have h1 := ih (by omega)
      have : one (ahd s n a) ≤ one (ahd s n b) := by
        cases q : ahd s n a
        · exact Nat.zero_le _
        · rw [h n q]; exact Nat.le_refl _
      omega
theorem ahd_iff (s : Sta) (j k : Nat) : ahd s j k = true ↔ opn s j = true ∧ (szw s k < szw s j ∨ (szw s j = szw s k ∧ j < k)) := by
  unfold ahd
  simp
theorem rnk_uniq {s : Sta} {a b n : Nat} (ha : opn s a = true) (hb : opn s b = true) (hal : a < n) (hbl : b < n) (h : rnk s a n = rnk s b n) : a = b := by
  have irr : ∀ k, ahd s k k = false := fun k => by
    cases q : ahd s k k
    · rfl
    · have := (ahd_iff s k k).mp q; omega
  have tr : ∀ {a b : Nat}, ahd s a b = true → ∀ j, ahd s j a = true → ahd s j b = true := fun {a b} hab j hj => by
    have h1 := (ahd_iff s a b).mp hab
    have h2 := (ahd_iff s j a).mp hj
    exact (ahd_iff s j b).mpr ⟨h2.1, by omega⟩
  by_cases e : a = b
  · exact e
  · have hab : ahd s a b = true ∨ ahd s b a = true := by
      by_cases q : szw s b < szw s a
      · exact Or.inl ((ahd_iff s a b).mpr ⟨ha, Or.inl q⟩)
      · by_cases q2 : szw s a < szw s b
        · exact Or.inr ((ahd_iff s b a).mpr ⟨hb, Or.inl q2⟩)
        · by_cases q3 : a < b
          · exact Or.inl ((ahd_iff s a b).mpr ⟨ha, Or.inr ⟨by omega, q3⟩⟩)
          · exact Or.inr ((ahd_iff s b a).mpr ⟨hb, Or.inr ⟨by omega, by omega⟩⟩)
    rcases hab with q | q
    · have := rnk_lt (tr q) (irr a) q n hal; omega
    · have := rnk_lt (tr q) (irr b) q n hbl; omega
theorem rank_15 {M : Mem} {c k : Nat} {s : Sta} (h : RC M c s) (hs : okS s) (hk : k < s.2.2.length) : ∀ (n j : Nat), j ≤ s.2.2.length → s.2.2.length - j < n → f_X4_rankOfOpen_15 n c (nI k) (nI (szw s k)) (nI (rnk s k j)) (nI j) M = some (nI (rnk s k s.2.2.length), M) := by
  have h8 := hs.2.2.1
  have h2 := h.2.2.1
  intro n
  induction n with
  | zero => intro j _ h; omega
  | succ n ih =>
    intro j h3 h4
    rw [f_X4_rankOfOpen_15, h2]
    unfold f_X4_rankOfOpen_63 f_X4_rankOfOpen_66
    by_cases hj : j < s.2.2.length
    · have hw := hs.2.2.2 s.2.2[j] (List.getElem_mem hj)
      have rj := h.2.2.2.2 j hj
      have e := ih (j + 1) (by omega) (by omega)
      rw [rnk_succ] at e
      have l1 := szw_le hs j
      have l2 := szw_le hs k
      rw [if_pos ((nlt (by omega) (by omega)).mpr hj), mlW_ok (by omega), Option.bind_some, sizeOf_ok hw.2.2 rj.2.2.1 rj.2.2.2.2.2.2, Option.bind_some, isOpen_ok h hs hj, Option.bind_some, ← szw_in hj]
      dsimp only
      simp (disch := omega) only [bI_0', nlt, neq, nI_add]
      have ha := ahd_iff s j k
      by_cases q0 : opn s j = false
      · rw [if_pos q0]
        have : ahd s j k = false := by unfold ahd; rw [q0]; rfl
        rw [this] at e
        exact e
      · have q0' : opn s j = true := by simpa using q0
        rw [if_neg q0]
        by_cases q1 : szw s k < szw s j
        · rw [if_pos q1]
          rw [ha.mpr ⟨q0', Or.inl q1⟩] at e
          exact e
        · rw [if_neg q1]
          by_cases q2 : szw s j = szw s k
          · rw [if_pos q2]
            by_cases q3 : j < k
            · rw [if_pos q3]
              rw [ha.mpr ⟨q0', Or.inr ⟨q2, q3⟩⟩] at e
              exact e
            · rw [if_neg q3]
              have : ahd s j k = false := by
                cases q : ahd s j k
                · rfl
                · have := ha.mp q; omega
              rw [this] at e
              exact e
          · rw [if_neg q2]
            have : ahd s j k = false := by
              cases q : ahd s j k
              · rfl
              · have := ha.mp q; omega
            rw [this] at e
            exact e
    · have : j = s.2.2.length := by omega
      subst this
      rw [if_neg (fun q => hj ((nlt (by omega) (by omega)).mp q))]
theorem rankOf_ok {M : Mem} {c k : Nat} {s : Sta} (h : RC M c s) (hs : okS s) (hk : k < s.2.2.length) : f_X4_rankOfOpen c (nI k) M = some (nI (rnk s k s.2.2.length), M) := by
  have h8 := hs.2.2.1
  have hw := hs.2.2.2 s.2.2[k] (List.getElem_mem hk)
  have rk := h.2.2.2.2 k hk
  unfold f_X4_rankOfOpen
  rw [mlW_ok (by omega), Option.bind_some, sizeOf_ok hw.2.2 rk.2.2.1 rk.2.2.2.2.2.2, Option.bind_some, ← szw_in hk]
  exact rank_15 h hs hk fuelN 0 (by omega) (by unfold fuelN; omega)
/-- what open() answers to x -/
def OpA (s : Sta) (x v : Int32) : Prop := (∃ k, k < s.2.2.length ∧ opn s k = true ∧ nI (rnk s k s.2.2.length) = x ∧ v = nI k) ∨ ((∀ k, k < s.2.2.length → opn s k = true → nI (rnk s k s.2.2.length) ≠ x) ∧ v = -5)
theorem OpA_uniq {s : Sta} (hs : okS s) {x v w : Int32} (hv : OpA s x v) (hw : OpA s x w) : v = w := by
  have h8 := hs.2.2.1
  rcases hv with ⟨k, k1, k2, k3, k4⟩ | ⟨h1, h2⟩
  · rcases hw with ⟨j, j1, j2, j3, j4⟩ | ⟨g1, g2⟩
    · have r1 := rnk_le s k s.2.2.length
      have r2 := rnk_le s j s.2.2.length
      have := rnk_uniq k2 j2 k1 j1 ((neq (by omega) (by omega)).mp (by rw [k3, j3]))
      rw [k4, j4, this]
    · exact absurd k3 (g1 k k1 k2)
  · rcases hw with ⟨j, j1, j2, j3, j4⟩ | ⟨g1, g2⟩
    · exact absurd j3 (h1 j j1 j2)
    · rw [h2, g2]
theorem copen_9 {M : Mem} {c : Nat} {s : Sta} (hc : isSc c) (h08 : M 0 8 = nI c) (h : RC M c s) (hs : okS s) (x : Int32) : ∀ (n k : Nat), k ≤ s.2.2.length → s.2.2.length - k < n → (∀ j, j < k → opn s j = true → nI (rnk s j s.2.2.length) ≠ x) → ∃ v, f_X6_open_9 n x (nI k) M = some (v, M) ∧ OpA s x v := by
  have h8 := hs.2.2.1
  intro n
  induction n with
  | zero => intro k _ h; omega
  | succ n ih =>
    intro k h3 h4 h5
    rw [f_X6_open_9, h08, mlS_ok hc, Option.bind_some, h.2.2.1]
    unfold f_X6_open_45
    by_cases hk : k < s.2.2.length
    · rw [if_pos ((nlt (by omega) (by omega)).mpr hk), Option.bind_some, isOpen_ok h hs hk, Option.bind_some]
      dsimp only
      rw [h08, mlS_ok hc, Option.bind_some, rankOf_ok h hs hk, Option.bind_some]
      dsimp only
      simp only [bI_0', nI_add]
      cases q : opn s k with
      | false =>
        rw [if_pos rfl]
        refine ih (k + 1) (by omega) (by omega) (fun j hj hjo => ?_)
        by_cases e : j = k
        · subst e; rw [q] at hjo; cases hjo
        · exact h5 j (by omega) hjo
      | true =>
        rw [if_neg (by decide)]
        by_cases e : nI (rnk s k s.2.2.length) = x
        · rw [if_pos e]
          exact ⟨_, rfl, Or.inl ⟨k, hk, q, e, rfl⟩⟩
        · rw [if_neg e]
          refine ih (k + 1) (by omega) (by omega) (fun j hj hjo => ?_)
          by_cases e2 : j = k
          · subst e2; exact e
          · exact h5 j (by omega) hjo
    · have : k = s.2.2.length := by omega
      subst this
      rw [if_neg (fun q => hk ((nlt (by omega) (by omega)).mp q))]
      exact ⟨_, rfl, Or.inr ⟨fun j hj hjo => h5 j hj hjo, rfl⟩⟩
