/-! isBorne(): what a wish can bear, against what it would be -/
theorem Ans.zf {M : Mem} {a : Abs} (h : RelC M a) : Ans (mrz (nI 0) M) (nI 0) a := ⟨M, mrz_0 M, h⟩
theorem lsF_s (f : Nat → Bool) (m k : Nat) : lsF f (m + 1) k = if f k = true then nI k else lsF f m (k + 1) := rfl
theorem cF_s (f : Nat → Bool) (m k : Nat) : cF f (m + 1) k = one (f k) + cF f m (k + 1) := rfl
theorem ib_41 {K : Int32 → Int32 → Int32 → Int32 → Int32 → Int32 → Mem → Option Rv} {M : Mem} {w : Wsh} {d : Nat} {x1 : Int32} (hw : okW w) (hd : d < 64) : f_L_isBorne_41 K x1 (nI (cF (bcq w 2) (64 - (d + 1)) (d + 1))) (lsF (bcq w 1) (64 - (d + 1)) (d + 1)) (lsF (bcq w 3) (64 - (d + 1)) (d + 1)) (nI d) (nI (wb w d)) (if wb w d = 0 then nI 0 else nI 1) (nI (cF (bcq w 0) (64 - (d + 1)) (d + 1))) M = K x1 (nI (cF (bcq w 0) (64 - d) d)) (nI (cF (bcq w 2) (64 - d) d)) (lsF (bcq w 1) (64 - d) d) (lsF (bcq w 3) (64 - d) d) (nI d - nI 1) M := by
  have hwl := wb_le hw d
  have hs : 64 - d = (64 - (d + 1)) + 1 := by omega
  rw [hs, cF_s, cF_s, lsF_s, lsF_s]
  have b0 : bcq w 0 d = (wb w d != 0) := rfl
  have b1 : bcq w 1 d = (wb w d != 0) := rfl
  have b2 : bcq w 2 d = (wb w d == 1) := rfl
  have b3 : bcq w 3 d = (wb w d == 1) := rfl
  rw [b0, b1, b2, b3]
  unfold f_L_isBorne_41 f_L_isBorne_55 f_L_isBorne_69 f_L_isBorne_84
  generalize cF (bcq w 0) (64 - (d + 1)) (d + 1) = A
  generalize cF (bcq w 2) (64 - (d + 1)) (d + 1) = B
  generalize lsF (bcq w 1) (64 - (d + 1)) (d + 1) = L1
  generalize lsF (bcq w 3) (64 - (d + 1)) (d + 1) = L3
  have n10 : ¬ nI 1 = nI 0 := by decide
  have n01 : ¬ nI 0 = nI 1 := by decide
  have n20 : ¬ nI 2 = nI 0 := by decide
  have n21 : ¬ nI 2 = nI 1 := by decide
  have e0 : one (0 != 0) = 0 := rfl
  have e1 : one (1 != 0) = 1 := rfl
  have e2 : one (2 != 0) = 1 := rfl
  have f0 : one (0 == 1) = 0 := rfl
  have f1 : one (1 == 1) = 1 := rfl
  have f2 : one (2 == 1) = 0 := rfl
  have g0 : ((0 != 0) = true) = False := by decide
  have g1 : ((1 != 0) = true) = True := by decide
  have g2 : ((2 != 0) = true) = True := by decide
  have h0 : ((0 == 1) = true) = False := by decide
  have h1 : ((1 == 1) = true) = True := by decide
  have h2 : ((2 == 1) = true) = False := by decide
  have z10 : ((1 : Nat) = 0) = False := by decide
  have z20 : ((2 : Nat) = 0) = False := by decide
  rcases (show wb w d = 0 ∨ wb w d = 1 ∨ wb w d = 2 by omega) with z | z | z <;> rw [z]
  · simp only [n01, e0, f0, g0, h0, if_true, if_false, nI_add, Nat.add_zero, Nat.zero_add]
  · simp only [n10, e1, f1, g1, h1, z10, if_true, if_false, nI_add, Nat.add_comm 1]
  · simp only [n20, n21, e2, f2, g2, h2, z20, if_true, if_false, nI_add, Nat.add_zero, Nat.zero_add, Nat.add_comm 1]
theorem ib_16 {a : Abs} {k : Nat} {w : Wsh} (hA : okA a) (ht : tw a.1 k = some w) (hend : a.1.1 = false) : ∀ (n e : Nat) (M : Mem), e ≤ 64 → e < n → RelC M a → Ans (f_L_isBorne_16 n (nI k) (nI (cF (bcq w 0) (64 - e) e)) (nI (cF (bcq w 2) (64 - e) e)) (lsF (bcq w 1) (64 - e) e) (lsF (bcq w 3) (64 - e) e) (nI e - nI 1) M) (nI 1) a := by
  have hw := tw_ok hA.1 ht
  intro n
  induction n with
  | zero => intro e M _ h; omega
  | succ n ih =>
    intro e M h1 h2 hM
    rw [f_L_isBorne_16]
    rcases Nat.eq_zero_or_pos e with q0 | q0
    · subst q0
      rw [if_pos (by decide)]
      refine Ans.bind (c_bears hA hM ht (q := 0) (by omega) hend) (fun M1 g1 => ?_)
      dsimp only
      rw [show bq w 0 = nI (cF (bcq w 0) 64 0) from rfl, if_pos rfl]
      refine Ans.bind (c_bears hA g1 ht (q := 1) (by omega) hend) (fun M2 g2 => ?_)
      dsimp only
      rw [show bq w 1 = lsF (bcq w 1) 64 0 from rfl, if_pos rfl]
      refine Ans.bind (c_bears hA g2 ht (q := 2) (by omega) hend) (fun M3 g3 => ?_)
      dsimp only
      rw [show bq w 2 = nI (cF (bcq w 2) 64 0) from rfl, if_pos rfl]
      refine Ans.bind (c_bears hA g3 ht (q := 3) (by omega) hend) (fun M4 g4 => ?_)
      dsimp only
      rw [show bq w 3 = lsF (bcq w 3) 64 0 from rfl, if_pos rfl]
      unfold f_L_isBorne_139
      exact Ans.zt g4
    · obtain ⟨d, rfl⟩ : ∃ d, e = d + 1 := ⟨e - 1, by omega⟩
      rw [nsub (by omega), Nat.add_sub_cancel, if_neg (neg_n (show d < 2147483648 by omega))]
      refine Ans.bind (c_would hA hM ht (set := d) (by omega) hend) (fun M1 g1 => ?_)
      dsimp only
      have hwl := wb_le hw d
      have e1 := ib_41 (K := f_L_isBorne_16 n) (M := M1) (x1 := nI k) hw (show d < 64 by omega)
      have nx := ih d M1 (by omega) (by omega) g1
      rw [← e1] at nx
      simp (disch := omega) only [neq]
      by_cases z : wb w d = 0
      · rw [if_pos z] at nx ⊢
        exact nx
      · rw [if_neg z] at nx ⊢
        exact nx
theorem isBorne_ok {M : Mem} {a : Abs} {k : Nat} {w : Wsh} (hA : okA a) (h : RelC M a) (ht : tw a.1 k = some w) (hend : a.1.1 = false) : Ans (f_L_isBorne (nI k) M) (nI 1) a := by
  have := ib_16 hA ht hend fuelN 64 M (Nat.le_refl _) (by unfold fuelN; omega) h
  unfold f_L_isBorne
  rw [show 64 - 64 = 0 from rfl, nsub (show 1 ≤ 64 by omega)] at this
  exact this
theorem ib_16n {a : Abs} {k : Nat} (hk9 : k < 1000) (hA : okA a) (ht : tw a.1 k = none) : ∀ (n e : Nat) (M : Mem) (x2 x3 x4 x5 : Int32), e ≤ 64 → e < n → RelC M a → ∃ v, Ans (f_L_isBorne_16 n (nI k) x2 x3 x4 x5 (nI e - nI 1) M) v a := by
  intro n
  induction n with
  | zero => intro e M x2 x3 x4 x5 _ h; omega
  | succ n ih =>
    intro e M x2 x3 x4 x5 h1 h2 hM
    rw [f_L_isBorne_16]
    rcases Nat.eq_zero_or_pos e with q0 | q0
    · subst q0
      rw [if_pos (by decide)]
      unfold f_L_isBorne_138 f_L_isBorne_139
      have b : ∀ (y : Int32) {N : Mem}, RelC N a → Ans (f_X6_bears (nI k) y N) (-1) a := fun y N g => c_bears0 hk9 hA g ht
      obtain ⟨M1, e1, g1⟩ := b (nI 0) hM
      rw [e1, Option.bind_some]
      dsimp only
      by_cases z1 : (-1 : Int32) = x2
      · rw [if_pos z1]
        obtain ⟨M2, e2, g2⟩ := b (nI 1) g1
        rw [e2, Option.bind_some]
        dsimp only
        by_cases z2 : (-1 : Int32) = x4
        · rw [if_pos z2]
          obtain ⟨M3, e3, g3⟩ := b (nI 2) g2
          rw [e3, Option.bind_some]
          dsimp only
          by_cases z3 : (-1 : Int32) = x3
          · rw [if_pos z3]
            obtain ⟨M4, e4, g4⟩ := b (nI 3) g3
            rw [e4, Option.bind_some]
            dsimp only
            by_cases z4 : (-1 : Int32) = x5
            · rw [if_pos z4]; exact ⟨_, Ans.zt g4⟩
            · rw [if_neg z4]; exact ⟨_, Ans.zf g4⟩
          · rw [if_neg z3]; exact ⟨_, Ans.zf g3⟩
        · rw [if_neg z2]; exact ⟨_, Ans.zf g2⟩
      · rw [if_neg z1]; exact ⟨_, Ans.zf g1⟩
    · obtain ⟨d, rfl⟩ : ∃ d, e = d + 1 := ⟨e - 1, by omega⟩
      rw [nsub (by omega), Nat.add_sub_cancel, if_neg (neg_n (show d < 2147483648 by omega))]
      obtain ⟨M1, e1, g1⟩ := c_would0 (y := nI d) hk9 hA hM ht
      rw [e1, Option.bind_some]
      dsimp only
      rw [if_neg (show ¬ (-1 : Int32) = nI 0 by decide)]
      unfold f_L_isBorne_41 f_L_isBorne_55 f_L_isBorne_69 f_L_isBorne_84
      rw [if_neg (show ¬ (-1 : Int32) = nI 1 by decide), if_neg (show ¬ (-1 : Int32) = nI 0 by decide), if_neg (show ¬ (-1 : Int32) = nI 1 by decide)]
      exact ih d M1 _ _ _ _ (by omega) (by omega) g1
theorem isBorne_no {M : Mem} {a : Abs} {k : Nat} (hk9 : k < 1000) (hA : okA a) (h : RelC M a) (ht : tw a.1 k = none) : ∃ v, Ans (f_L_isBorne (nI k) M) v a := by
  have := ib_16n hk9 hA ht fuelN 64 M (nI 0) (nI 0) (-5) (-5) (Nat.le_refl _) (by unfold fuelN; omega) h
  unfold f_L_isBorne
  rw [nsub (show 1 ≤ 64 by omega)] at this
  exact this
