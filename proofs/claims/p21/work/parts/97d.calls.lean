theorem ref_ne {c k : Nat} (hc : isSc c) (hk : k < 8) : ¬ nI (c + 3 + 3 * k) = nI 0 := fun q => by
  have := isSc_ge hc
  have := (neq (by omega) (by omega)).mp q
  omega
theorem RelC'.now {M : Mem} {a : Abs} {cn cs : Nat} {ch : Nat → Nat} {tb : List T} (h : RelC' M a cn cs ch tb) : M 0 8 = nI cn ∧ isSc cn ∧ RC M cn a.1 ∧ FT M tb := ⟨h.1.1, h.1.2.2.2.1.1, h.2.2.1, h.2.1⟩
theorem RelC'.spell {M M' : Mem} {a : Abs} {cn cs : Nat} {ch : Nat → Nat} {tb : List T} (h : RelC' M a cn cs ch tb) (hA : okA a) (f : ∀ d, d ≠ 17 → d ≠ 19 → d ≠ 20 → d ≠ 21 → M' d = M d) : RelC' M' a cn cs ch tb := h.keep hA (fun c hc => f c (by omega) (by omega) (by omega) (by omega)) (by rw [f 22 (by omega) (by omega) (by omega) (by omega)]) (h.2.1.congr (fun c _ _ => f c (by omega) (by omega) (by omega) (by omega)))
/-! bears -/
def bcq (w : Wsh) (q e : Nat) : Bool := if q < 2 then wb w e != 0 else wb w e == 1
def lsF (f : Nat → Bool) : Nat → Nat → Int32
  | 0, _ => -5
  | m + 1, k => if f k = true then nI k else lsF f m (k + 1)
def cF (f : Nat → Bool) : Nat → Nat → Nat
  | 0, _ => 0
  | m + 1, k => one (f k) + cF f m (k + 1)
theorem cb_51 {w : Wsh} (hw : okW w) {q : Nat} (hq : q < 4) {M : Mem} (h26 : ∀ j, j < 64 → M 26 j = nI (wb w j)) : ∀ (n k acc : Nat), k ≤ 64 → 64 - k < n → acc ≤ k → f_X6_bears_51 n (nI q) (nI acc) (nI k) M = some (if q = 1 ∨ q = 3 then lsF (bcq w q) (64 - k) k else nI (acc + cF (bcq w q) (64 - k) k), M) := by
  intro n
  induction n with
  | zero => intro k acc _ h; omega
  | succ n ih =>
    intro k acc h1 h2 h3
    rw [f_X6_bears_51]
    unfold f_X6_bears_97 f_X6_bears_114 f_X6_bears_117 f_X6_bears_125 f_X6_bears_141 f_X6_bears_148
    by_cases hk : k < 64
    · have hwl := wb_le hw k
      have hs : 64 - k = (64 - (k + 1)) + 1 := by omega
      have i0 := ih (k + 1) acc (by omega) (by omega) (by omega)
      have i1 := ih (k + 1) (acc + 1) (by omega) (by omega) (by omega)
      rw [if_pos ((nlt (by omega) (by omega)).mpr hk), mrd_n hk (by omega), Option.bind_some, Option.bind_some, h26 k hk]
      rw [hs]
      unfold lsF cF
      have hb : bcq w q k = if q < 2 then wb w k != 0 else wb w k == 1 := rfl
      have mid : ∀ b : Bool, b = bcq w q k → (if bI b = nI 0 then (if bI b = nI 0 then f_X6_bears_51 n (nI q) (nI acc) (nI k + nI 1) M else f_X6_bears_51 n (nI q) (nI acc + nI 1) (nI k + nI 1) M) else if nI q = nI 1 then some (nI k, M) else if nI q = nI 3 then some (nI k, M) else if bI b = nI 0 then f_X6_bears_51 n (nI q) (nI acc) (nI k + nI 1) M else f_X6_bears_51 n (nI q) (nI acc + nI 1) (nI k + nI 1) M) = some (if q = 1 ∨ q = 3 then (if bcq w q k = true then nI k else lsF (bcq w q) (64 - (k + 1)) (k + 1)) else nI (acc + (one (bcq w q k) + cF (bcq w q) (64 - (k + 1)) (k + 1))), M) := by
        intro b hb2
        rw [← hb2]
        simp (disch := omega) only [bI_0', neq, nI_add]
        cases b with
        | false =>
          rw [if_pos rfl, if_pos rfl, i0, if_neg (show ¬ false = true by decide), show one false = 0 from rfl, Nat.zero_add]
        | true =>
          rw [if_neg (show ¬ true = false by decide), if_pos (show true = true from rfl), show one true = 1 from rfl]
          by_cases a1 : q = 1
          · rw [if_pos a1, if_pos (Or.inl a1)]
          · rw [if_neg a1]
            by_cases a3 : q = 3
            · rw [if_pos a3, if_pos (Or.inr a3)]
            · rw [if_neg a3, if_neg (show ¬ true = false by decide), i1, if_neg (by omega), if_neg (by omega), Nat.add_assoc]
      have mT := mid true
      have mF := mid false
      rw [bI_t] at mT
      rw [bI_f] at mF
      simp (disch := omega) only [nlt] at *
      by_cases q2 : q < 2
      · rw [if_pos q2] at hb ⊢
        by_cases z : wb w k = 0
        · rw [if_pos ((neq (by omega) (by omega)).mpr z)]
          exact mF (by rw [hb, z]; rfl)
        · rw [if_neg (fun p => z ((neq (by omega) (by omega)).mp p))]
          exact mT (by rw [hb]; simpa using z)
      · rw [if_neg q2] at hb ⊢
        by_cases z : wb w k = 1
        · rw [if_pos ((neq (by omega) (by omega)).mpr z)]
          exact mT (by rw [hb, z]; rfl)
        · rw [if_neg (fun p => z ((neq (by omega) (by omega)).mp p))]
          exact mF (by rw [hb]; simpa using z)
    · have : k = 64 := by omega
      subst this
      rw [if_neg (by decide)]
      simp (disch := omega) only [neq]
      rw [show 64 - 64 = 0 from rfl]
      unfold lsF cF
      by_cases a1 : q = 1
      · rw [if_pos a1, if_pos (Or.inl a1)]
      · rw [if_neg a1]
        by_cases a3 : q = 3
        · rw [if_pos a3, if_pos (Or.inr a3)]
        · rw [if_neg a3, if_neg (by omega), Nat.add_zero]
