theorem opp_start {M : Mem} {tb : List T} (h : ∀ k, k < 16 → M 14 k = nI (opk k)) : BC M tb opp 16 := fun i hi => by
  have hk := opk_lt hi
  refine ⟨opk i, by omega, h i hi, ?_⟩
  rw [dn_lf hi, dn_lf hk]
  exact (opp_lf hi).symm
theorem opp_pre {M : Mem} {root : Nat} : ∃ M0, f_X0_opposite (nI root) M = f_X0_opposite_30 fuelN (nI root) (nI 0) M0 ∧ (∀ k, k < 4 → M0 14 k = nI (opk k)) ∧ ∀ c, c ≠ 14 → M0 c = M c := by
  refine ⟨mwr (mwr (mwr (mwr M 14 0 (nI 1)) 14 1 (nI 0)) 14 2 (nI 3)) 14 3 (nI 2), ?_, fun k hk => ?_, fun c hc => ?_⟩
  · unfold f_X0_opposite
    rw [mst_n (by omega) (by omega), Option.bind_some, mst_n (by omega) (by omega), Option.bind_some, mst_n (by omega) (by omega), Option.bind_some, mst_n (by omega) (by omega), Option.bind_some]
  · have hk4 : k = 0 ∨ k = 1 ∨ k = 2 ∨ k = 3 := by omega
    rcases hk4 with rfl | rfl | rfl | rfl
    · rw [mwr_in _ (by omega), mwr_in _ (by omega), mwr_in _ (by omega), mwr_at]; rfl
    · rw [mwr_in _ (by omega), mwr_in _ (by omega), mwr_at]; rfl
    · rw [mwr_in _ (by omega), mwr_at]; rfl
    · rw [mwr_at]; rfl
  · rw [mwr_ne _ _ _ hc, mwr_ne _ _ _ hc, mwr_ne _ _ _ hc, mwr_ne _ _ _ hc]
theorem opposite_stop {M : Mem} {root : Nat} (hr : root < 16) {y : Nat} (yb : M 14 root = nI y) : ∀ n : Nat, 0 < n → f_X0_opposite_69 n (nI root) (nI 16) M = some (nI y, M) := by
  intro n hn
  cases n with
  | zero => omega
  | succ n =>
    rw [f_X0_opposite_69]
    simp (disch := omega) only [nlt, hr, if_true, mrd_n, Option.bind_some, yb]
theorem opposite_ok {M : Mem} {tb D : List T} (h : FT M tb) (hD : D.length ≤ 60) (hP : PT D tb) {root : Nat} (hr2 : root < 16 + tb.length) :
    ∃ (y : Nat) (M' : Mem) (tc : List T), f_X0_opposite (nI root) M = some (nI y, M') ∧ FT M' (tb ++ tc) ∧ PT D (tb ++ tc) ∧ y < 16 + (tb ++ tc).length ∧ dn (tb ++ tc) y = opp (dn tb root) ∧ ∀ c, c = 0 ∨ 17 ≤ c → M' c = M c := by
  obtain ⟨M0, e0, b0, far⟩ := opp_pre (M := M) (root := root)
  obtain ⟨M1, e1, b1, o1⟩ := opposite_30 (root := root) fuelN 0 M0 (by omega) (by unfold fuelN; omega) (fun k hk => b0 k (by omega))
  have f1 : FT M1 tb := h.congr (fun c _ _ => by rw [o1 c (by omega), far c (by omega)])
  have hB : BC M1 tb opp 16 := opp_start b1
  have hl := h.2.1
  rw [e0, e1]
  rcases Nat.lt_or_ge root 16 with e | e
  · obtain ⟨y, ya, yb, yc⟩ := hB root e
    refine ⟨y, M1, [], ?_, by rw [List.append_nil]; exact f1, by rw [List.append_nil]; exact hP, by rw [List.append_nil]; exact ya, by rw [List.append_nil]; exact yc, fun c hc => by rw [o1 c (by omega), far c (by omega)]⟩
    exact opposite_stop e yb fuelN (by unfold fuelN; omega)
  · obtain ⟨y, M', tc, r1, r2, r3, r4, r5, r7⟩ := opposite_69 hD e hr2 (by omega) fuelN 16 M1 [] (by omega) (by omega) (by unfold fuelN; omega) (by rw [List.append_nil]; exact f1) (by rw [List.append_nil]; exact hP) (by rw [List.append_nil]; exact hB)
    exact ⟨y, M', tc, r1, r2, r3, r4, r5, fun c hc => by rw [r7 c hc, o1 c (by omega), far c (by omega)]⟩
