theorem RelC'.fq {M M' : Mem} {a : Abs} {cn cs : Nat} {ch : Nat → Nat} {tb tb' : List T} (h : RelC' M a cn cs ch tb) (hA : okA a) (f : FQ M M') (hF : FT M' tb') : RelC' M' a cn cs ch tb' := h.keep hA (fun c hc => f c (by omega)) (by rw [f 22 (by omega)]) hF
theorem mi2c_n (x : Int32) : ∃ q, q < 65536 ∧ mi2c x = nI q := ⟨_, Nat.mod_lt _ (by omega), pk_char x⟩
theorem neg_lt {x : Int32} {n : Nat} (hn : n < 1000000) : x < 0 ∨ (¬ x < nI 0 ∧ ¬ x < nI n) ∨ ∃ k, k < n ∧ x = nI k := by
  rcases pk_ix x (n := n) (by omega) with q | q | q
  · exact Or.inl q
  · refine Or.inr (Or.inl ⟨fun p => ?_, fun p => ?_⟩)
    · have a := lt_toInt.mp p
      have b := Int32.le_iff_toInt_le.mp q
      rw [nI_toInt (by omega)] at a b
      omega
    · have a := lt_toInt.mp p
      have b := Int32.le_iff_toInt_le.mp q
      omega
  · exact Or.inr (Or.inr q)
/-! counts in the model -/
def thm (s : Sta) : Nat → Nat
  | 0 => 0
  | n + 1 => thm s n + one (thk s n)
theorem thm_succ (s : Sta) (n : Nat) : thm s (n + 1) = thm s n + one (thk s n) := rfl
theorem thr_thm {s : Sta} (hs : okS s) : thr s = thm s 8 := by
  have h : ∀ n, n ≤ s.2.2.length → hmv s 0 n + hmv s 1 n + hmv s 2 n = thm s n := by
    intro n
    induction n with
    | zero => intro _; rfl
    | succ n ih =>
      intro hn
      have e := ih (by omega)
      have hk : n < s.2.2.length := by omega
      rw [hmv_succ, hmv_succ, hmv_succ, thm_succ, thk_in hk, List.getElem?_eq_getElem hk]
      dsimp only
      have hv := (hs.2.2.2 s.2.2[n] (List.getElem_mem hk)).1
      have h3 : s.2.2[n].2.1 = 0 ∨ s.2.2[n].2.1 = 1 ∨ s.2.2[n].2.1 = 2 := by omega
      have : one (s.2.2[n].1 && s.2.2[n].2.1 == 0) + one (s.2.2[n].1 && s.2.2[n].2.1 == 1) + one (s.2.2[n].1 && s.2.2[n].2.1 == 2) = one s.2.2[n].1 := by
        rcases h3 with q | q | q <;> rw [q] <;> cases s.2.2[n].1 <;> rfl
      omega
  have h2 : ∀ n, s.2.2.length ≤ n → thm s n = thm s s.2.2.length := by
    intro n
    induction n with
    | zero => intro q; rw [show s.2.2.length = 0 by omega]
    | succ n ih =>
      intro q
      by_cases p : s.2.2.length = n + 1
      · rw [p]
      · rw [thm_succ, ih (by omega)]
        have : thk s n = false := by unfold thk; rw [List.getElem?_eq_none (by omega)]
        rw [this]
        rfl
  unfold thr
  rw [h _ (Nat.le_refl _), h2 8 hs.2.2.1]
theorem hmv_8 {s : Sta} (hs : okS s) (v : Nat) : hmv s v 8 = hmv s v s.2.2.length := by
  have h2 : ∀ n, s.2.2.length ≤ n → hmv s v n = hmv s v s.2.2.length := by
    intro n
    induction n with
    | zero => intro q; rw [show s.2.2.length = 0 by omega]
    | succ n ih =>
      intro q
      by_cases p : s.2.2.length = n + 1
      · rw [p]
      · rw [hmv_succ, ih (by omega), List.getElem?_eq_none (by omega)]
        rfl
  exact h2 8 hs.2.2.1
