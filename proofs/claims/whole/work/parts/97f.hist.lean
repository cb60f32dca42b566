/-! undo, keep, restore, removeWish -/
theorem undo_22 {b : Nat} (hb : b < 4) : ∀ (n x : Nat) (M : Mem), M 218 24 = nI b → x ≤ 31088 → 31088 - x < n → ∃ M', f_X7_undo_22 n (nI x) M = some (nI b, M') ∧ (∀ c, c ≠ 219 → M' c = M c) ∧ (∀ i, x ≤ i → i < 31088 → M' 219 i = M 220 (31088 * b + i)) ∧ ∀ i, i < x → M' 219 i = M 219 i := by
  intro n
  induction n with
  | zero => intro x M _ _ h; omega
  | succ n ih =>
    intro x M h24 h1 h2
    rw [f_X7_undo_22, h24]
    by_cases hx : x < 31088
    · rw [if_pos ((nlt (by omega) (by omega)).mpr hx), nmul, nI_add, mrd_n (by omega) (by omega), Option.bind_some, mst_n hx (by omega), Option.bind_some, nI_add]
      obtain ⟨M', e, o1, o2, o3⟩ := ih (x + 1) (mwr M 219 x (M 220 (31088 * b + x))) (by rw [mwr_off _ _ _ (by omega)]; exact h24) (by omega) (by omega)
      refine ⟨M', e, fun c hc => by rw [o1 c hc, mwr_ne _ _ _ hc], fun i h3 h4 => ?_, fun i hi => by rw [o3 i (by omega), mwr_in _ (by omega)]⟩
      by_cases q : i = x
      · subst q; rw [o3 i (by omega), mwr_at]
      · rw [o2 i (by omega) h4, mwr_off _ _ _ (by omega)]
    · have : x = 31088 := by omega
      subst this
      rw [if_neg (fun q => hx ((nlt (by omega) (by omega)).mp q))]
      exact ⟨M, rfl, fun _ _ => rfl, fun i h3 h4 => by omega, fun _ _ => rfl⟩
theorem keep_2 : ∀ (n x : Nat) (M : Mem), x ≤ 31088 → 31088 - x < n → ∃ M', f_X7_keep_2 n (nI x) M = some (M 219 0, mwr M' 218 25 (bI true)) ∧ (∀ c, c ≠ 221 → M' c = M c) ∧ (∀ i, x ≤ i → i < 31088 → M' 221 i = M 219 i) ∧ ∀ i, i < x → M' 221 i = M 221 i := by
  intro n
  induction n with
  | zero => intro x M _ h; omega
  | succ n ih =>
    intro x M h1 h2
    rw [f_X7_keep_2]
    by_cases hx : x < 31088
    · rw [if_pos ((nlt (by omega) (by omega)).mpr hx), mrd_n hx (by omega), Option.bind_some, mst_n hx (by omega), Option.bind_some, nI_add]
      obtain ⟨M', e, o1, o2, o3⟩ := ih (x + 1) (mwr M 221 x (M 219 x)) (by omega) (by omega)
      refine ⟨M', by rw [e, mwr_off _ _ _ (show (219 : Nat) ≠ 221 by omega)], fun c hc => by rw [o1 c hc, mwr_ne _ _ _ hc], fun i h3 h4 => ?_, fun i hi => by rw [o3 i (by omega), mwr_in _ (by omega)]⟩
      by_cases q : i = x
      · subst q; rw [o3 i (by omega), mwr_at]
      · rw [o2 i (by omega) h4, mwr_off _ _ _ (by omega)]
    · have : x = 31088 := by omega
      subst this
      rw [if_neg (fun q => hx ((nlt (by omega) (by omega)).mp q)), mpz_1, Option.bind_some, mrd_n (by omega) (by omega), Option.bind_some, mwr_off _ _ _ (by omega)]
      exact ⟨M, rfl, fun _ _ => rfl, fun i h3 h4 => by omega, fun _ _ => rfl⟩
theorem restore_16 : ∀ (n x : Nat) (M : Mem), x ≤ 31088 → 31088 - x < n → (∀ i, i < x → M 219 i = M 221 i) → ∃ M', f_X7_restore_16 n (nI x) M = some (M 221 0, M') ∧ (∀ c, c ≠ 219 → M' c = M c) ∧ ∀ i, i < 31088 → M' 219 i = M 221 i := by
  intro n
  induction n with
  | zero => intro x M _ h; omega
  | succ n ih =>
    intro x M h1 h2 h3
    rw [f_X7_restore_16]
    by_cases hx : x < 31088
    · rw [if_pos ((nlt (by omega) (by omega)).mpr hx), mrd_n hx (by omega), Option.bind_some, mst_n hx (by omega), Option.bind_some, nI_add]
      obtain ⟨M', e, o1, o2⟩ := ih (x + 1) (mwr M 219 x (M 221 x)) (by omega) (by omega) (fun i hi => by
        rw [mwr_off _ _ _ (show (221 : Nat) ≠ 219 by omega)]
        by_cases q : i = x
        · subst q; rw [mwr_at]
        · rw [mwr_in _ q]; exact h3 i (by omega))
      refine ⟨M', by rw [e, mwr_off _ _ _ (show (221 : Nat) ≠ 219 by omega)], fun c hc => by rw [o1 c hc, mwr_ne _ _ _ hc], fun i hi => by rw [o2 i hi, mwr_off _ _ _ (by omega)]⟩
    · have : x = 31088 := by omega
      subst this
      rw [if_neg (fun q => hx ((nlt (by omega) (by omega)).mp q)), mrd_n (by omega) (by omega), Option.bind_some, h3 0 (by omega)]
      exact ⟨M, rfl, fun _ _ => rfl, h3⟩
theorem okA_act {a : Abs} {s : Sta} (hA : okA a) (hs : okS s) : okA (s, recd a.2.1 a.1, a.2.2) := by
  refine ⟨hs, ?_, fun x hx => ?_, hA.2.2.2⟩
  · have := recd_len (h := a.2.1) (s := a.1) hA.2.1
    dsimp only
    rw [this]
    have := hA.2.1
    split <;> omega
  · rcases recd_mem hx with h | h
    · exact hA.2.2.1 x h
    · rw [h]; exact hA.1
/-- the model, behind an act -/
theorem RelM_act {M M1 M' : Mem} {a : Abs} {s : Sta} (hA : okA a) (h : RelM M a) (hrec : RMh M1 (recd a.2.1 a.1) ∧ M1 218 24 = nI (recd a.2.1 a.1).length ∧ (∀ c, c ≠ 218 → c ≠ 220 → M1 c = M c) ∧ ∀ i, i ≠ 24 → M1 218 i = M 218 i) (hm : ∀ c, c = 220 ∨ c = 221 ∨ c = 234 → M' c = M1 c) (h8 : ∀ i, 20 ≤ i → M' 218 i = M1 218 i) (hR : RM (M' 219) s) : RelM M' (s, recd a.2.1 a.1, a.2.2) := by
  obtain ⟨m1, m2, m3, m4, m5, m6, m7⟩ := h
  obtain ⟨r1, r2, r3, r4⟩ := hrec
  refine ⟨hR, fun i hi => by rw [hm 220 (by omega)]; exact r1 i hi, fun s hs => by rw [hm 221 (by omega), r3 221 (by omega) (by omega)]; exact m3 s hs, by rw [h8 24 (by omega)]; exact r2, by rw [h8 25 (by omega), r4 25 (by omega)]; exact m5, by rw [h8 23 (by omega), r4 23 (by omega)]; exact m6, fun i hi => by rw [hm 234 (by omega), r3 234 (by omega) (by omega)]; exact m7 i hi⟩
theorem s_undo : stp Rel f_X6_undo f_X7_undo := by
  refine stp_of (fun MC MM a hA hC hM => ?_)
  have hC0 := hC
  obtain ⟨cn, cs, ch, tb, hC⟩ := hC
  obtain ⟨⟨c1, c2, c3, c4, c5, c6, c7, c8, c9⟩, r0, r1, r2, r3, r4, r5, r6, r7⟩ := id hC
  obtain ⟨m1, m2, m3, m4, m5, m6, m7⟩ := id hM
  have hl := hA.2.1
  unfold f_X6_undo f_X7_undo
  rw [r4, m4]
  rcases Nat.eq_zero_or_pos a.2.1.length with q | q
  · rw [q, if_pos rfl, if_pos rfl]
    exact same_of hA hC0 hM _
  · obtain ⟨b, hb⟩ : ∃ b, a.2.1.length = b + 1 := ⟨a.2.1.length - 1, by omega⟩
    rw [hb]
    have hne : ¬ nI (b + 1) = nI 0 := fun p => by have := (neq (by omega) (by omega)).mp p; omega
    have hb4 : b < 4 := by omega
    have gb := isSc_ge (c6 b hb4).1
    have gn := isSc_ge c4.1
    rw [if_neg hne, if_neg hne, nsub (by omega), Nat.add_sub_cancel, mpi_n, Option.bind_some, mpi_n, Option.bind_some, mwr_at, mrd_n hb4 (by omega), Option.bind_some, mwr_off _ _ _ (show (28 : Nat) ≠ 0 by omega), c3 b hb4, mlS_ok (c6 b hb4).1, Option.bind_some, mwr_in _ (show (8 : Nat) ≠ 10 by omega), c1, mlS_ok c4.1, Option.bind_some, mst_n hb4 (by omega), Option.bind_some, mpi_n, Option.bind_some]
    obtain ⟨M1, e1, o1, o2, -⟩ := undo_22 hb4 fuelN 0 (mwr MM 218 24 (nI b)) (mwr_at _ _ _ _) (by omega) (by unfold fuelN; omega)
    rw [e1]
    have hlast : a.2.1[b]'(by omega) ∈ a.2.1 := List.getElem_mem _
    rw [mwr_in _ (show (10 : Nat) ≠ 8 by omega), mwr_off _ _ _ (show (0 : Nat) ≠ 28 by omega), mwr_at]
    generalize hN : mwr (mwr (mwr MC 0 10 (nI b)) 28 b (nI cn)) 0 8 (nI (ch b)) = N
    refine ⟨nI b, N, M1, (a.2.1[b]'(by omega), a.2.1.take b, a.2.2), rfl, rfl, ⟨hA.2.2.1 _ hlast, ?_, fun s hs => hA.2.2.1 s (List.mem_of_mem_take hs), hA.2.2.2⟩, ⟨ch b, cs, fun i => if i = b then cn else ch i, tb, ?_⟩, ?_⟩
    · rw [List.length_take]; omega
    · have far : ∀ c, c ≠ 0 → c ≠ 28 → N c = MC c := fun c p q => by rw [← hN, mwr_ne _ _ _ p, mwr_ne _ _ _ q, mwr_ne _ _ _ p]
      refine ⟨⟨?_, ?_, fun i hi => ?_, c6 b hb4, c5, fun i hi => ?_, (c8 b hb4).2, fun i hi => ?_, fun i j hi hj hij => ?_⟩, r0.congr (fun c p q => far c (by omega) (by omega)), (r2 b (by omega)).congr (hA.2.2.1 _ hlast) (fun d p q => far d (by omega) (by omega)), fun i hi => ?_, fun s hs => (r3 s hs).congr (hA.2.2.2.1 s hs) (fun d p q => far d (by omega) (by omega)), ?_, ?_, by rw [far 22 (by omega) (by omega)]; exact r6, fun i hi => by rw [far 23 (by omega) (by omega)]; exact r7 i hi⟩
      · rw [← hN, mwr_at]
      · rw [← hN, mwr_in _ (by omega), mwr_off _ _ _ (by omega), mwr_in _ (by omega)]; exact c2
      · rw [← hN, mwr_off _ _ _ (by omega)]
        dsimp only
        by_cases p : i = b
        · rw [if_pos p, p, mwr_at]
        · rw [if_neg p, mwr_in _ p, mwr_off _ _ _ (by omega)]; exact c3 i hi
      · dsimp only
        split
        · exact c4
        · exact c6 i hi
      · dsimp only
        by_cases p : i = b
        · rw [if_pos p]; exact ⟨fun e => (c8 b hb4).1 e.symm, c7⟩
        · rw [if_neg p]; exact ⟨c9 i b hi hb4 p, (c8 i hi).2⟩
      · dsimp only
        by_cases p : i = b
        · rw [if_pos p, if_neg (by omega)]; exact fun e => (c8 j hj).1 e.symm
        · rw [if_neg p]
          by_cases p2 : j = b
          · rw [if_pos p2]; exact (c8 i hi).1
          · rw [if_neg p2]; exact c9 i j hi hj hij
      · dsimp only at hi ⊢
        rw [List.length_take] at hi
        rw [if_neg (by omega), List.getElem_take]
        have := isSc_ge (c6 i (by omega)).1
        exact (r2 i (by omega)).congr (hA.2.2.1 _ (List.getElem_mem _)) (fun d p q => far d (by omega) (by omega))
      · rw [← hN, mwr_in _ (by omega), mwr_off _ _ _ (by omega), mwr_at, List.length_take, Nat.min_eq_left (by omega)]
      · rw [← hN, mwr_in _ (by omega), mwr_off _ _ _ (by omega), mwr_in _ (by omega)]; exact r5
    · refine ⟨?_, fun i hi => ?_, fun s hs => by rw [o1 221 (by omega), mwr_ne _ _ _ (by omega)]; exact m3 s hs, ?_, by rw [o1 218 (by omega), mwr_in _ (by omega)]; exact m5, by rw [o1 218 (by omega), mwr_in _ (by omega)]; exact m6, fun i hi => by rw [o1 234 (by omega), mwr_ne _ _ _ (by omega)]; exact m7 i hi⟩
      · refine (m2 b (by omega)).congr (hA.2.2.1 _ hlast) (fun i hi => ?_)
        rw [o2 i (by omega) hi, mwr_off _ _ _ (by omega)]
      · dsimp only at hi ⊢
        rw [List.length_take] at hi
        rw [o1 220 (by omega), mwr_ne _ _ _ (by omega), List.getElem_take]
        exact m2 i (by omega)
      · rw [o1 218 (by omega), mwr_at, List.length_take, Nat.min_eq_left (by omega)]
theorem s_keep : stp Rel f_X6_keep f_X7_keep := by
  refine stp_of (fun MC MM a hA hC hM => ?_)
  obtain ⟨cn, cs, ch, tb, hC⟩ := hC
  obtain ⟨⟨c1, c2, c3, c4, c5, c6, c7, c8, c9⟩, r0, r1, r2, r3, r4, r5, r6, r7⟩ := id hC
  obtain ⟨m1, m2, m3, m4, m5, m6, m7⟩ := id hM
  have gn := isSc_ge c4.1
  have f29 : ∀ {c : Nat}, isSq c → c + 27 ≤ 29 ∨ 29 + 27 ≤ c := fun h => isSc_far h.1 (Or.inl rfl) h.2
  unfold f_X6_keep f_X7_keep
  rw [c1, mlS_ok c4.1, Option.bind_some]
  obtain ⟨M1, e1, s1, o1⟩ := scopy_ok hA.1 (cs := cn) (cd := 29) (by have := f29 c4; omega) r1
  rw [e1, Option.bind_some, mpz_1, Option.bind_some]
  dsimp only
  have k0 : mwr M1 0 11 (bI true) 0 8 = nI cn := by rw [mwr_in _ (by omega), o1 0 (by omega)]; exact c1
  have kn := f29 c4
  rw [k0, mlS_ok c4.1, Option.bind_some, mwr_off _ _ _ (show cn ≠ 0 by omega), o1 cn (by omega), r1.2.1]
  obtain ⟨M2, e2, p1, p2, -⟩ := keep_2 fuelN 0 MM (by omega) (by unfold fuelN; omega)
  rw [e2, m1.1]
  have far : ∀ c, c ≠ 0 → (c < 29 ∨ 56 ≤ c) → mwr M1 0 11 (bI true) c = MC c := fun c h h2 => by rw [mwr_ne _ _ _ h, o1 c h2]
  refine ⟨_, _, _, (a.1, a.2.1, some a.1, a.2.2.2), rfl, rfl, ⟨hA.1, hA.2.1, hA.2.2.1, (fun s hs => by cases hs; exact hA.1), hA.2.2.2.2⟩, ⟨cn, cs, ch, tb, ?_⟩, ?_⟩
  · refine ⟨⟨k0, by rw [mwr_in _ (by omega), o1 0 (by omega)]; exact c2, fun i hi => by rw [far 28 (by omega) (by omega)]; exact c3 i hi, c4, c5, c6, c7, c8, c9⟩, r0.congr (fun c p q => far c (by omega) (by omega)), r1.congr hA.1 (fun d p q => far d (by omega) (by omega)), fun i hi => (r2 i hi).congr (hA.2.2.1 _ (List.getElem_mem hi)) (fun d p q => ?_), fun s hs => ?_, by rw [mwr_in _ (by omega), o1 0 (by omega)]; exact r4, mwr_at _ _ _ _, by rw [far 22 (by omega) (by omega)]; exact r6, fun i hi => by rw [far 23 (by omega) (by omega)]; exact r7 i hi⟩
    · have hi4 : i < 4 := by have := hA.2.1; dsimp only at hi; omega
      have := f29 (c6 i hi4)
      have := isSc_ge (c6 i hi4).1
      exact far d (by omega) (by omega)
    · cases hs
      exact s1.congr hA.1 (fun d p q => mwr_ne _ _ _ (by omega))
  · refine ⟨by rw [mwr_ne _ _ _ (by omega), p1 219 (by omega)]; exact m1, fun i hi => by rw [mwr_ne _ _ _ (by omega), p1 220 (by omega)]; exact m2 i hi, fun s hs => ?_, by rw [mwr_in _ (by omega), p1 218 (by omega)]; exact m4, mwr_at _ _ _ _, by rw [mwr_in _ (by omega), p1 218 (by omega)]; exact m6, fun i hi => by rw [mwr_ne _ _ _ (by omega), p1 234 (by omega)]; exact m7 i hi⟩
    cases hs
    refine m1.congr hA.1 (fun i hi => ?_)
    rw [mwr_off _ _ _ (by omega), p2 i (by omega) hi]
theorem s_restore : stp Rel f_X6_restore f_X7_restore := by
  refine stp_of (fun MC MM a hA hC hM => ?_)
  have hC0 := hC
  obtain ⟨cn, cs, ch, tb, hC⟩ := hC
  obtain ⟨⟨c1, c2, c3, c4, c5, c6, c7, c8, c9⟩, r0, r1, r2, r3, r4, r5, r6, r7⟩ := id hC
  obtain ⟨m1, m2, m3, m4, m5, m6, m7⟩ := id hM
  have gs := isSc_ge c5.1
  unfold f_X6_restore f_X7_restore
  simp only [r5, m5, bI_0']
  cases hsn : a.2.2.1 with
  | none =>
    rw [Option.isSome_none, if_pos rfl, if_pos rfl]
    exact same_of hA hC0 hM _
  | some s =>
    have hs := hA.2.2.2.1 s hsn
    have h29 := isSc_far (Or.inl rfl) c5.1 (fun e => c5.2 e.symm)
    rw [Option.isSome_some, if_neg (by decide), if_neg (by decide), c2, mlS_ok c5.1, Option.bind_some]
    obtain ⟨M1, e1, s1, o1⟩ := scopy_ok hs (cs := 29) (cd := cs) (by omega) (r3 s hsn)
    rw [e1, Option.bind_some]
    dsimp only
    obtain ⟨M2, cs', ch', e2, R2, o2⟩ := act_ok hC hA (M' := M1) (fun c hc => o1 c (by omega)) (by rw [o1 22 (by omega)]) (r0.congr (fun c _ _ => o1 c (by omega))) hs s1
    rw [e2, Option.bind_some]
    dsimp only
    rw [R2.now.1, mlS_ok c5.1, Option.bind_some, R2.now.2.2.1.2.1]
    obtain ⟨M3, e3, h1, h2, h3, h4⟩ := record_ok hA.1 hA.2.2.1 hA.2.1 m4 m1 m2
    obtain ⟨M4, e4, p1, p2⟩ := restore_16 fuelN 0 M3 (by omega) (by unfold fuelN; omega) (fun i hi => by omega)
    rw [e3, Option.bind_some]
    dsimp only
    rw [e4, h3 221 (by omega) (by omega), (m3 s hsn).1]
    refine ⟨_, _, _, (s, recd a.2.1 a.1, a.2.2), rfl, rfl, okA_act hA hs, ⟨cs, cs', ch', tb, R2⟩, RelM_act hA hM ⟨h1, h2, h3, h4⟩ (fun c hc => p1 c (by omega)) (fun i hi => by rw [p1 218 (by omega)]) ?_⟩
    refine (m3 s hsn).congr hs (fun i hi => ?_)
    rw [p2 i hi, h3 221 (by omega) (by omega)]
/-! a state with one wish changed -/
def setW (s : Sta) (k : Nat) (w : Wsh) : Sta := (s.1, s.2.1, s.2.2.set k w)
theorem okS_setW {s : Sta} {k : Nat} {w : Wsh} (hs : okS s) (hw : okW w) : okS (setW s k w) := by
  refine ⟨hs.1, hs.2.1, by show (s.2.2.set k w).length ≤ 8; rw [List.length_set]; exact hs.2.2.1, fun x hx => ?_⟩
  rcases List.mem_or_eq_of_mem_set hx with h | h
  · exact hs.2.2.2 x h
  · rw [h]; exact hw
theorem RC.setW {M M' : Mem} {c k : Nat} {s : Sta} {w : Wsh} (h : RC M c s) (hs : okS s) (hw : RCw M' (c + 3 + 3 * k) w) (hm : ∀ d, c ≤ d → d < c + 27 → d ≠ c + 3 + 3 * k → d ≠ c + 3 + 3 * k + 1 → d ≠ c + 3 + 3 * k + 2 → M' d = M d) : RC M' c (setW s k w) := by
  obtain ⟨a, b, e, f, g⟩ := h
  have h8 := hs.2.2.1
  refine ⟨by rw [hm c (by omega) (by omega) (by omega) (by omega) (by omega)]; exact a, by rw [hm c (by omega) (by omega) (by omega) (by omega) (by omega)]; exact b, by rw [hm c (by omega) (by omega) (by omega) (by omega) (by omega)]; show M c 2 = nI (s.2.2.set k w).length; rw [List.length_set]; exact e, fun i hi => by rw [hm (c + 1) (by omega) (by omega) (by omega) (by omega) (by omega)]; exact f i hi, fun j hj => ?_⟩
  have hj' : j < s.2.2.length := by rw [← List.length_set (a := w) (i := k)]; exact hj
  have hj2 : j < (s.2.2.set k w).length := hj
  suffices fin : RCw M' (c + 3 + 3 * j) ((s.2.2.set k w)[j]'hj2) from fin
  by_cases q : k = j
  · subst q
    rw [List.getElem_set_self]
    exact hw
  · rw [List.getElem_set_ne q]
    exact (g j hj').congr (hm _ (by omega) (by omega) (by omega) (by omega) (by omega)) (hm _ (by omega) (by omega) (by omega) (by omega) (by omega)) (hm _ (by omega) (by omega) (by omega) (by omega) (by omega))
theorem RM.setW {f f' : Nat → Int32} {k : Nat} {s : Sta} {w : Wsh} (h : RM f s) (hs : okS s) (hk : k < 8) (hw : RMw f' k w) (hf : ∀ i, i < 31088 → (i < 48 + 8 * k ∨ 48 + 8 * k + 8 ≤ i) → (i < bw k 0 ∨ bw k 0 + 484 * 8 ≤ i) → f' i = f i) : RM f' (setW s k w) := by
  obtain ⟨a, b, c, d, e⟩ := h
  have h8 := hs.2.2.1
  have h40 := hs.1
  have hb : bw k 0 = 112 + 484 * (8 * k) := by unfold bw; omega
  refine ⟨by rw [hf 0 (by omega) (by omega) (by omega)]; exact a, by rw [hf 1 (by omega) (by omega) (by omega)]; exact b, by rw [hf 2 (by omega) (by omega) (by omega)]; show f 2 = nI (s.2.2.set k w).length; rw [List.length_set]; exact c, fun i hi => ?_, fun j hj => ?_⟩
  · have hi' : i < s.2.1.length := hi
    rw [hf (4 + i) (by omega) (by omega) (by omega)]
    exact d i hi
  · have hj' : j < s.2.2.length := by rw [← List.length_set (a := w) (i := k)]; exact hj
    have hj2 : j < (s.2.2.set k w).length := hj
    suffices fin : RMw f' j ((s.2.2.set k w)[j]'hj2) from fin
    by_cases q : k = j
    · subst q
      rw [List.getElem_set_self]
      exact hw
    · rw [List.getElem_set_ne q]
      have hbj : bw j 0 = 112 + 484 * (8 * j) := by unfold bw; omega
      exact (e j hj').congr (by omega) (hs.2.2.2 _ (List.getElem_mem hj')) (fun i hi => hf _ (by omega) (by omega) (by omega)) (fun i h1 h2 => hf i (by omega) (by omega) (by omega))
theorem s_remove (x : Int32) : stp Rel (f_X6_removeWish x) (f_X7_removeWish x) := by
  refine stp_of (fun MC MM a hA hC hM => ?_)
  have hC0 := hC
  obtain ⟨cn, cs, ch, tb, hC⟩ := hC
  obtain ⟨⟨c1, c2, c3, c4, c5, c6, c7, c8, c9⟩, r0, r1, r2, r3, r4, r5, r6, r7⟩ := id hC
  obtain ⟨m1, m2, m3, m4, m5, m6, m7⟩ := id hM
  have gs := isSc_ge c5.1
  unfold f_X6_removeWish f_X7_removeWish
  rw [c1, mlS_ok c4.1, Option.bind_some]
  rcases both_find c4.1 r1 m1 hA.1 x with ⟨k, hk, rfl, hw, rw1, rw2, e, e'⟩ | ⟨e, e'⟩
  · have h8 := hA.1.2.2.1
    have hns := isSc_far c4.1 c5.1 c7
    obtain ⟨M1, e1, s1, o1⟩ := scopy_ok hA.1 (cs := cn) (cd := cs) (by omega) r1
    obtain ⟨w0, hw0⟩ : ∃ w0 : Wsh, w0 = (false, a.1.2.2[k].2) := ⟨_, rfl⟩
    have okw0 : okW w0 := by rw [hw0]; exact hw
    have hs' := okS_setW (k := k) hA.1 okw0
    have rk := s1.2.2.2.2 k hk
    have rk0 : RCw (mwr M1 (cs + 3 + 3 * k) 0 (bI false)) (cs + 3 + 3 * k) w0 := by
      rw [hw0]
      obtain ⟨b0, b1, b2, b3, b4, b5, b6⟩ := rk
      exact ⟨mwr_at _ _ _ _, by rw [mwr_in _ (by omega)]; exact b1, by rw [mwr_in _ (by omega)]; exact b2, by rw [mwr_in _ (by omega)]; exact b3, by rw [mwr_in _ (by omega)]; exact b4, by rw [mwr_in _ (by omega)]; exact b5, fun p hp => ⟨by rw [mwr_off _ _ _ (by omega)]; exact (b6 p hp).1, (b6 p hp).2.congr (mwr_ne _ _ _ (by omega))⟩⟩
    have s2 := s1.setW (k := k) hA.1 rk0 (fun d h1 h2 h3 _ _ => mwr_ne _ _ _ h3)
    obtain ⟨M2, cs', ch', e2, R2, o2⟩ := act_ok hC hA (M' := mwr M1 (cs + 3 + 3 * k) 0 (bI false)) (fun c hc => by rw [mwr_ne _ _ _ (by omega), o1 c (by omega)]) (by rw [mwr_ne _ _ _ (by omega), o1 22 (by omega)]) (r0.congr (fun c _ _ => by rw [mwr_ne _ _ _ (by omega), o1 c (by omega)])) hs' s2
    obtain ⟨M3, e3, h1, h2, h3, h4⟩ := record_ok hA.1 hA.2.2.1 hA.2.1 m4 m1 m2
    have rm0 : RMw (mwr M3 219 (48 + 8 * k) (nI 0) 219) k w0 := by
      rw [hw0]
      have e219 : M3 219 = MM 219 := h3 219 (by omega) (by omega)
      obtain ⟨b0, b1, b2, b3, b4, b5, b6⟩ := rw2
      have hbp := bw_pos k
      refine ⟨mwr_at _ _ _ _, by rw [mwr_in _ (by omega), e219]; exact b1, by rw [mwr_in _ (by omega), e219]; exact b2, by rw [mwr_in _ (by omega), e219]; exact b3, by rw [mwr_in _ (by omega), e219]; exact b4, by rw [mwr_in _ (by omega), e219]; exact b5, fun p hp => (b6 p hp).congr (hw.2.2.2.2 _ (List.getElem_mem hp)).2 (fun i q1 q2 => ?_)⟩
      have := hbp p
      rw [mwr_in _ (by omega), e219]
    have sM : RM (mwr M3 219 (48 + 8 * k) (nI 0) 219) (setW a.1 k w0) := m1.setW hA.1 (by omega) rm0 (fun i q1 q2 _ => by
      rw [mwr_in _ (by omega), h3 219 (by omega) (by omega)])
    rw [e', Option.bind_some]
    dsimp only
    rw [if_neg (show ¬ nI 1 = nI 0 by decide), e3, Option.bind_some]
    dsimp only
    rw [w_ok, Option.bind_some]
    dsimp only
    rw [nI_add, Nat.add_zero, mst_n (by omega) (by omega), Option.bind_some, thereMany_ok sM hs', Option.bind_some]
    rw [e, Option.bind_some]
    dsimp only
    rw [if_neg (ref_ne c4.1 (by omega)), c2, mlS_ok c5.1, Option.bind_some, c1, mlS_ok c4.1, Option.bind_some, e1, Option.bind_some]
    dsimp only
    rw [mlW_ok (by omega), Option.bind_some, mpz_0, Option.bind_some, e2, Option.bind_some]
    dsimp only
    rw [R2.now.1, mlS_ok c5.1, Option.bind_some, howManyThere_ok R2.now.2.2.1 hs', Option.bind_some]
    have ht : thr (setW a.1 k w0) = thm (setW a.1 k w0) 8 := thr_thm hs'
    dsimp only
    rw [ht]
    exact ⟨_, _, _, _, rfl, rfl, okA_act hA hs', ⟨cs, cs', ch', tb, R2⟩, RelM_act hA hM ⟨h1, h2, h3, h4⟩ (fun c hc => mwr_ne _ _ _ (by omega)) (fun i hi => mwr_off _ _ _ (by omega)) sM⟩
  · rw [e', Option.bind_some, e, Option.bind_some]
    dsimp only
    rw [if_pos rfl, if_pos rfl]
    exact same_of hA hC0 hM _
