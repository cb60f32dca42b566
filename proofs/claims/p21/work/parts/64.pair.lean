def prs (k : Nat) (a b : T) : List T := if k < 18 then [a] else [a, b]
theorem prs_len (k : Nat) (a b : T) : (prs k a b).length = if k < 18 then 1 else 2 := by
  unfold prs
  split <;> rfl
theorem prs_get (k : Nat) (a b : T) (j : Nat) (hj : j < (prs k a b).length) : (prs k a b)[j] = if j = 0 then a else b := by
  by_cases h : k < 18
  · have e : prs k a b = [a] := if_pos h
    have : j = 0 := by rw [e] at hj; simp at hj; exact hj
    subst this
    simp only [e, List.getElem_cons_zero, if_true]
  · have e : prs k a b = [a, b] := if_neg h
    simp only [e]
    rw [e] at hj
    have : j = 0 ∨ j = 1 := by simp at hj; omega
    rcases this with rfl | rfl <;> rfl
theorem prs_AR {k : Nat} {a b : T} (hk : 16 ≤ k) (hk2 : k ≤ 19) (hA : AR a = true) (hB : AR b = true) : AR (nd k (prs k a b)) = true := by
  refine (AR_nd _ _).mpr ⟨?_, fun t ht => ?_⟩
  · rw [prs_len]
    unfold arity
    rw [if_neg (by omega)]
    by_cases h : k < 18
    · rw [if_pos h, if_pos h]; rfl
    · rw [if_neg h, if_neg h, if_pos (by omega)]; rfl
  · unfold prs at ht
    split at ht
    · rw [List.mem_singleton.mp ht]; exact hA
    · rcases List.mem_cons.mp ht with rfl | ht
      · exact hA
      · rw [List.mem_singleton.mp ht]; exact hB
theorem pair_ok {M : Mem} {tb : List T} (h : FT M tb) {k a b : Nat} (hk : 16 ≤ k) (hk2 : k ≤ 19) (ha : a < 16 + tb.length) (hb : b < 16 + tb.length) (hcap : nd k (prs k (dn tb a) (dn tb b)) ∉ tb → tb.length < 2032 ∧ stof tb tb.length + 2 ≤ 8192) :
    ∃ (id : Nat) (M' : Mem) (tc : List T), f_X0_make (nI k) (nI a) (nI b) M = some (nI id, M') ∧ FT M' (tb ++ tc) ∧ id < 16 + (tb ++ tc).length ∧ dn (tb ++ tc) id = nd k (prs k (dn tb a) (dn tb b)) ∧ (tc = [] ∨ (tc = [nd k (prs k (dn tb a) (dn tb b))] ∧ nd k (prs k (dn tb a) (dn tb b)) ∉ tb)) ∧ ∀ c, c = 0 ∨ (13 ≤ c ∧ c ≠ 16) → M' c = M c := by
  have hAR := prs_AR hk hk2 (dn_AR h.1 ha) (dn_AR h.1 hb)
  have hlen := prs_len k (dn tb a) (dn tb b)
  have hget := prs_get k (dn tb a) (dn tb b)
  generalize prs k (dn tb a) (dn tb b) = ts at *
  unfold f_X0_make f_X0_make_36 f_X0_make_41
  simp (disch := omega) only [mst_n, Option.bind_some, neq]
  generalize hM1 : mwr (mwr M 16 0 (nI a)) 16 1 (nI b) = M1
  have far : ∀ c, c ≠ 16 → M1 c = M c := fun c hc => by rw [← hM1, mwr_ne _ _ _ hc, mwr_ne _ _ _ hc]
  have f1 : FT M1 tb := h.congr (fun c _ _ => far c (by omega))
  have z0 : M1 16 0 = nI a := by rw [← hM1, mwr_in _ (by omega), mwr_at]
  have z1 : M1 16 1 = nI b := by rw [← hM1, mwr_at]
  have hl2 : ts.length ≤ 2 := by rw [hlen]; split <;> omega
  have hrw : RW M1 tb 16 0 ts (fun j => if j = 0 then a else b) := fun j hj => by
    rw [hget j hj]
    by_cases e : j = 0
    · subst e
      exact ⟨ha, z0, rfl⟩
    · have : j = 1 := by omega
      subst this
      exact ⟨hb, z1, rfl⟩
  have hr2 : rlen 16 = 2 := rfl
  obtain ⟨id, M', tc, e1, f2, i2, d2, l2, o2⟩ := make_ok f1 hk hAR (fun hn => by have := hcap hn; omega) (show 13 ≤ 16 by omega) (by rw [hr2]; omega) hrw
  refine ⟨id, M', tc, ?_, f2, i2, d2, ?_, fun c hc => by rw [o2 c (by omega), far c (by omega)]⟩
  · by_cases h18 : k < 18
    · rw [if_pos h18] at hlen
      rw [hlen] at e1
      rw [e1]
      by_cases q : k = 16
      · rw [if_pos q, Option.bind_some]
      · rw [if_neg q, if_pos (by omega), Option.bind_some]
    · rw [if_neg h18] at hlen
      rw [hlen] at e1
      rw [e1]
      rw [if_neg (by omega), if_neg (by omega), Option.bind_some]
  · rcases l2 with ⟨l2, -⟩ | l2
    · exact Or.inl l2
    · exact Or.inr l2
