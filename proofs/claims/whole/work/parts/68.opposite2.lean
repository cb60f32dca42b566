theorem opp_start {M : Mem} {tb : List T} (h : ∀ k, k < 16 → M 14 k = nI (opk k)) : BC M tb opp 16 := fun i hi => by
  have hk := opk_lt hi
  refine ⟨opk i, by omega, h i hi, ?_⟩
  rw [dn_lf hi, dn_lf hk]
  exact (opp_lf hi).symm
theorem opp_pre {M : Mem} {root : Nat} : ∃ M0, f_X0_opposite (nI root) M = f_X0_opposite_30 fuelN (nI root) (nI 0) M0 ∧ (∀ k, k < 4 → M0 14 k = nI (opk k)) ∧ ∀ c, c ≠ 14 → M0 c = M c := by
  refine ⟨mwr (mwr (mwr (mwr M 14 0 (nI 1)) 14 1 (nI 0)) 14 2 (nI 3)) 14 3 (nI 2), ?_, fun k hk => ?_, fun c hc => ?_⟩
  · unfold f_X0_opposite
    rw [mst_n (by omega) (by omega), Option.bind_some, mst_n (by omega) (by omega), Option.bind_some, mst_n (by omega) (by omega), Option.bind_some, mst_n (by omega) (by omega), Option.bind_some]
  · have hk4 : k = 0 ∨ k = 1 ∨ k = 2 ∨ k = 3 := by omega
    rcases hk4 with rfl | rfl | rfl | rfl
    · rw [mwr_in _ (by omega), mwr_in _ (by omega), mwr_in _ (by omega), mwr_at]; rfl
    · rw [mwr_in _ (by omega), mwr_in _ (by omega), mwr_at]; rfl
    · rw [mwr_in _ (by omega), mwr_at]; rfl
    · rw [mwr_at]; rfl
  · rw [mwr_ne _ _ _ hc, mwr_ne _ _ _ hc, mwr_ne _ _ _ hc, mwr_ne _ _ _ hc]
