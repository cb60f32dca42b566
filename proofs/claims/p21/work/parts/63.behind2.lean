def lfv (set k : Nat) : Nat := if k < 2 then k else if k = 2 then 1 else if k = 3 then 0 else if k < 10 then (if set.testBit (k - 4) = true then 1 else 0) else if set.testBit (k - 10) = true then 0 else 1
theorem lfv_ok (set k : Nat) : rewL set k = lf (lfv set k) := by
  unfold rewL lfv
  repeat' split
  all_goals rfl
theorem lfv_lt (set k : Nat) : lfv set k < 2 := by
  unfold lfv
  repeat' split
  all_goals omega
theorem rew_lf (set : Nat) {k : Nat} (h : k < 16) : rew set (lf k) = lf (lfv set k) := by
  unfold lf
  rw [rew_nd]
  unfold rewN
  rw [if_pos h, lfv_ok]
  rfl
theorem behind_30 {set root : Nat} (hset : set < 64) : ∀ (n i : Nat) (M : Mem), i ≤ 6 → 6 - i < n → (∀ k, k < 4 ∨ (4 ≤ k ∧ k < 4 + i) ∨ (10 ≤ k ∧ k < 10 + i) → M 14 k = nI (lfv set k)) →
    ∃ M', f_X0_behind_30 n (nI root) (nI set) (nI i) M = f_X0_behind_97 fuelN (nI root) (nI 16) M' ∧ (∀ k, k < 16 → M' 14 k = nI (lfv set k)) ∧ ∀ c, c ≠ 14 → M' c = M c := by
  intro n
  induction n with
  | zero => intro i M _ h; omega
  | succ n ih =>
    intro i M hi hn hM
    rw [f_X0_behind_30]
    rcases Nat.lt_or_ge i 6 with e | e
    · simp (disch := omega) only [nlt, e, if_true, shl1 i (by omega)]
      simp only [nI_and]
      have hb : set &&& 2 ^ i < 2147483648 := Nat.lt_of_le_of_lt Nat.and_le_left (by omega)
      simp (disch := first | omega | exact hb) only [neq, and_bit]
      have key : ∀ a b : Nat, a < 2 → b < 2 → a = lfv set (4 + i) → b = lfv set (10 + i) → ∃ M', ((mst M 14 2048 (nI (4 + i)) (nI a)).bind fun M1 => (mst M1 14 2048 (nI (10 + i)) (nI b)).bind fun M2 => f_X0_behind_30 n (nI root) (nI set) (nI (i + 1)) M2) = f_X0_behind_97 fuelN (nI root) (nI 16) M' ∧ (∀ k, k < 16 → M' 14 k = nI (lfv set k)) ∧ ∀ c, c ≠ 14 → M' c = M c := by
        intro a b ha hb ea eb
        simp (disch := omega) only [mst_n, Option.bind_some]
        obtain ⟨M', e1, e2, e3⟩ := ih (i + 1) (mwr (mwr M 14 (4 + i) (nI a)) 14 (10 + i) (nI b)) (by omega) (by omega) (fun k hk => by
          by_cases h1 : k = 10 + i
          · rw [h1, mwr_at, eb]
          · rw [mwr_in _ h1]
            by_cases h2 : k = 4 + i
            · rw [h2, mwr_at, ea]
            · rw [mwr_in _ h2]
              exact hM k (by omega))
        exact ⟨M', e1, e2, fun c hc => by rw [e3 c hc, mwr_ne _ _ _ hc, mwr_ne _ _ _ hc]⟩
      have l4 : lfv set (4 + i) = if set.testBit i = true then 1 else 0 := by
        unfold lfv
        rw [if_neg (by omega), if_neg (by omega), if_neg (by omega), if_pos (by omega), show 4 + i - 4 = i by omega]
      have l10 : lfv set (10 + i) = if set.testBit i = true then 0 else 1 := by
        unfold lfv
        rw [if_neg (by omega), if_neg (by omega), if_neg (by omega), if_neg (by omega), show 10 + i - 10 = i by omega]
      cases hb : set.testBit i with
      | false =>
        rw [hb] at l4 l10
        obtain ⟨M', e1, e2⟩ := key 0 1 (by omega) (by omega) (by rw [l4]; rfl) (by rw [l10]; rfl)
        refine ⟨M', ?_, e2⟩
        rw [← e1]
        unfold f_X0_behind_49 f_X0_behind_68 f_X0_behind_87
        simp +decide only [if_true, if_false, nI_add]
      | true =>
        rw [hb] at l4 l10
        obtain ⟨M', e1, e2⟩ := key 1 0 (by omega) (by omega) (by rw [l4]; rfl) (by rw [l10]; rfl)
        refine ⟨M', ?_, e2⟩
        rw [← e1]
        unfold f_X0_behind_49 f_X0_behind_68 f_X0_behind_87
        simp +decide only [if_true, if_false, nI_add]
    · have : i = 6 := by omega
      subst this
      refine ⟨M, ?_, fun k hk => hM k (by omega), fun _ _ => rfl⟩
      simp +decide (disch := omega) only [nlt, if_false]
theorem behind_ok {M : Mem} {tb : List T} (h : FT M tb) {set root : Nat} (hset : set < 64) (hr2 : root < 16 + tb.length) (c1 : tb.length + 2 * (root - 15) ≤ 2032) (c2 : stof tb tb.length + wsum tb (root - 15) ≤ 8192) (c3 : ∀ t ∈ tb, size t ≤ 2000) :
    ∃ (y : Nat) (M' : Mem) (tc : List T), f_X0_behind (nI root) (nI set) M = some (nI y, M') ∧ FT M' (tb ++ tc) ∧ y < 16 + (tb ++ tc).length ∧ dn (tb ++ tc) y = rew set (dn tb root) ∧ ∀ c, c = 0 ∨ 16 ≤ c → M' c = M c := by
  unfold f_X0_behind
  simp (disch := omega) only [mst_n, Option.bind_some]
  generalize hM0 : mwr (mwr (mwr (mwr M 14 0 (nI 0)) 14 1 (nI 1)) 14 2 (nI 1)) 14 3 (nI 0) = M0
  have far : ∀ c, c ≠ 14 → M0 c = M c := fun c hc => by rw [← hM0, mwr_ne _ _ _ hc, mwr_ne _ _ _ hc, mwr_ne _ _ _ hc, mwr_ne _ _ _ hc]
  obtain ⟨M1, e1, b1, o1⟩ := behind_30 (root := root) hset fuelN 0 M0 (by omega) (by unfold fuelN; omega) (fun k hk => by
    rw [← hM0]
    have hk4 : k = 0 ∨ k = 1 ∨ k = 2 ∨ k = 3 := by omega
    rcases hk4 with rfl | rfl | rfl | rfl
    · rw [mwr_in _ (by omega), mwr_in _ (by omega), mwr_in _ (by omega), mwr_at]; rfl
    · rw [mwr_in _ (by omega), mwr_in _ (by omega), mwr_at]; rfl
    · rw [mwr_in _ (by omega), mwr_at]; rfl
    · rw [mwr_at]; rfl)
  have f1 : FT M1 tb := h.congr (fun c _ _ => by rw [o1 c (by omega), far c (by omega)])
  have hB : BC M1 tb (rew set) 16 := fun i hi => ⟨lfv set i, by have := lfv_lt set i; omega, b1 i hi, by rw [dn_lf hi, rew_lf set hi, dn_lf (by have := lfv_lt set i; omega)]⟩
  have hl := h.2.1
  rw [e1]
  rcases Nat.lt_or_ge root 16 with e | e
  · obtain ⟨y, ya, yb, yc⟩ := hB root e
    refine ⟨y, M1, [], ?_, by rw [List.append_nil]; exact f1, by rw [List.append_nil]; exact ya, by rw [List.append_nil]; exact yc, fun c hc => by rw [o1 c (by omega), far c (by omega)]⟩
    unfold fuelN
    rw [f_X0_behind_97]
    simp (disch := omega) only [nlt, e, if_true, mrd_n, Option.bind_some, yb]
  · obtain ⟨y, M', tc, r1, r2, r3, r4, -, -, r7⟩ := behind_97 e hr2 c1 c2 c3 fuelN 16 M1 [] (by omega) (by omega) (by unfold fuelN; omega) (by rw [List.append_nil]; exact f1) (by rw [List.append_nil]; exact hB) (by simp) (by simp)
    exact ⟨y, M', tc, r1, r2, r3, r4, fun c hc => by rw [r7 c hc, o1 c (by omega), far c (by omega)]⟩
