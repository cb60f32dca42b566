/-! THE CLASS'S ACTS, one by one: what is answered, and what the object stands for then -/
theorem c_type {M : Mem} {a : Abs} {q : Nat} (hA : okA a) (h : RelC M a) (hq : q < 65536) (hlt : a.2.2.2.length < 60) : Ans (f_X6_type (nI q) M) (nI (a.2.2.2.length + 1)) (a.1, a.2.1, a.2.2.1, a.2.2.2 ++ [q]) := by
  obtain ⟨cn, cs, ch, tb, hC⟩ := h
  have h5 := hC.2.2.2.2.2.2.2.1
  have hl := hA.2.2.2.2.1
  unfold f_X6_type f_X6_type_23 f_X2_append
  rw [h5, if_pos ((nlt (by omega) (by omega)).mpr hlt), nc_n hq, mst_n hlt (by omega), Option.bind_some]
  rw [mwr_off _ _ _ (show (22 : Nat) ≠ 23 by omega), h5, nI_add, mpi_n, Option.bind_some, mrz_1, Option.bind_some]
  dsimp only
  rw [if_neg (by decide), mwr_at]
  refine ⟨_, rfl, cn, cs, ch, tb, ?_⟩
  obtain ⟨⟨c1, c2, c3, c4, c5, c6, c7⟩, r0, r1, r2, r3, r4, r5, r6, r7⟩ := hC
  have hm : ∀ c, c ≠ 22 → c ≠ 23 → mwr (mwr M 23 a.2.2.2.length (nI q)) 22 5 (nI (a.2.2.2.length + 1)) c = M c := fun c p1 p2 => by rw [mwr_ne _ _ _ p1, mwr_ne _ _ _ p2]
  have g4 := isSc_ge c4.1
  refine ⟨⟨by rw [hm 0 (by omega) (by omega)]; exact c1, by rw [hm 0 (by omega) (by omega)]; exact c2, fun i hi => by rw [hm 28 (by omega) (by omega)]; exact c3 i hi, c4, c5, c6, c7⟩, r0.congr (fun c p1 p2 => hm c (by omega) (by omega)), r1.congr hA.1 (fun d p1 p2 => hm d (by omega) (by omega)), fun i hi => (r2 i hi).congr (hA.2.2.1 _ (List.getElem_mem hi)) (fun d p1 p2 => by
    have := isSc_ge (c6 i (by have := hA.2.1; dsimp only at hi; omega)).1
    exact hm d (by omega) (by omega)), fun s hs => (r3 s hs).congr (hA.2.2.2.1 s hs) (fun d p1 p2 => hm d (by omega) (by omega)), by rw [hm 0 (by omega) (by omega)]; exact r4, by rw [hm 0 (by omega) (by omega)]; exact r5, by rw [mwr_at, List.length_append]; rfl, fun i hi => ?_⟩
  dsimp only at hi ⊢
  rw [List.length_append, List.length_singleton] at hi
  by_cases p : i = a.2.2.2.length
  · subst p
    rw [List.getElem_concat_length (by rfl), mwr_off _ _ _ (by omega), mwr_at]
    exact ⟨hq, rfl⟩
  · rw [List.getElem_append_left (by omega), mwr_off _ _ _ (by omega), mwr_in _ (by omega)]
    exact r7 i (by omega)
theorem c_clear {M : Mem} {a : Abs} (hA : okA a) (h : RelC M a) : Ans (f_X6_clearText M) (nI a.2.2.2.length) (a.1, a.2.1, a.2.2.1, []) := by
  obtain ⟨cn, cs, ch, tb, hC⟩ := h
  have h5 := hC.2.2.2.2.2.2.2.1
  unfold f_X6_clearText
  rw [mpi_n, Option.bind_some, h5]
  refine ⟨_, rfl, cn, cs, ch, tb, ?_⟩
  obtain ⟨⟨c1, c2, c3, c4, c5, c6, c7⟩, r0, r1, r2, r3, r4, r5, r6, r7⟩ := hC
  have hm : ∀ c, c ≠ 22 → mwr M 22 5 (nI 0) c = M c := fun c p1 => by rw [mwr_ne _ _ _ p1]
  have g4 := isSc_ge c4.1
  exact ⟨⟨by rw [hm 0 (by omega)]; exact c1, by rw [hm 0 (by omega)]; exact c2, fun i hi => by rw [hm 28 (by omega)]; exact c3 i hi, c4, c5, c6, c7⟩, r0.congr (fun c p1 p2 => hm c (by omega)), r1.congr hA.1 (fun d p1 p2 => hm d (by omega)), fun i hi => (r2 i hi).congr (hA.2.2.1 _ (List.getElem_mem hi)) (fun d p1 p2 => by
    have := isSc_ge (c6 i (by have := hA.2.1; dsimp only at hi; omega)).1
    exact hm d (by omega)), fun s hs => (r3 s hs).congr (hA.2.2.2.1 s hs) (fun d p1 p2 => hm d (by omega)), by rw [hm 0 (by omega)]; exact r4, by rw [hm 0 (by omega)]; exact r5, by rw [mwr_at]; rfl, fun i hi => by simp at hi⟩
/-- undo(): nothing to undo -/
theorem c_undo0 {M : Mem} {a : Abs} (h : RelC M a) (h0 : a.2.1 = []) : Ans (f_X6_undo M) (-5) a := by
  have hC0 := h
  obtain ⟨cn, cs, ch, tb, hC⟩ := h
  have r4 := hC.2.2.2.2.2.1
  unfold f_X6_undo
  rw [r4, h0, List.length_nil, if_pos rfl]
  exact Ans.of hC0 _
/-- undo(): the latest state -/
theorem c_undo {M : Mem} {a : Abs} {l : List Sta} {s0 : Sta} (hA : okA a) (h : RelC M a) (h0 : a.2.1 = l ++ [s0]) : Ans (f_X6_undo M) (nI l.length) (s0, l, a.2.2) := by
  obtain ⟨cn, cs, ch, tb, hC⟩ := h
  obtain ⟨⟨c1, c2, c3, c4, c5, c6, c7, c8, c9⟩, r0, r1, r2, r3, r4, r5, r6, r7⟩ := id hC
  have hl4 := hA.2.1
  obtain ⟨b, hb⟩ : ∃ b, l.length = b := ⟨_, rfl⟩
  have hlen : a.2.1.length = b + 1 := by rw [h0, List.length_append, hb]; rfl
  have hb4 : b < 4 := by omega
  have hlast : ∀ hx : b < a.2.1.length, a.2.1[b] = s0 := fun hx => by
    simp only [h0]
    rw [List.getElem_append_right (by omega)]
    simp [hb]
  have hmem : s0 ∈ a.2.1 := by rw [h0]; simp
  have gb := isSc_ge (c6 b hb4).1
  have gn := isSc_ge c4.1
  have hne : ¬ nI (b + 1) = nI 0 := fun p => by have := (neq (by omega) (by omega)).mp p; omega
  unfold f_X6_undo
  rw [r4, hlen, if_neg hne, nsub (by omega), Nat.add_sub_cancel, mpi_n, Option.bind_some, mwr_at, mrd_n hb4 (by omega), Option.bind_some, mwr_off _ _ _ (show (28 : Nat) ≠ 0 by omega), c3 b hb4, mlS_ok (c6 b hb4).1, Option.bind_some, mwr_in _ (show (8 : Nat) ≠ 10 by omega), c1, mlS_ok c4.1, Option.bind_some, mst_n hb4 (by omega), Option.bind_some, mpi_n, Option.bind_some]
  rw [mwr_in _ (show (10 : Nat) ≠ 8 by omega), mwr_off _ _ _ (show (0 : Nat) ≠ 28 by omega), mwr_at]
  generalize hN : mwr (mwr (mwr M 0 10 (nI b)) 28 b (nI cn)) 0 8 (nI (ch b)) = N
  rw [hb]
  refine ⟨N, rfl, ch b, cs, fun i => if i = b then cn else ch i, tb, ?_⟩
  have far : ∀ c, c ≠ 0 → c ≠ 28 → N c = M c := fun c p q => by rw [← hN, mwr_ne _ _ _ p, mwr_ne _ _ _ q, mwr_ne _ _ _ p]
  have rb := r2 b (by omega)
  rw [hlast (by omega)] at rb
  refine ⟨⟨?_, ?_, fun i hi => ?_, c6 b hb4, c5, fun i hi => ?_, (c8 b hb4).2, fun i hi => ?_, fun i j hi hj hij => ?_⟩, r0.congr (fun c p q => far c (by omega) (by omega)), rb.congr (hA.2.2.1 _ hmem) (fun d p q => far d (by omega) (by omega)), fun i hi => ?_, fun s hs => (r3 s hs).congr (hA.2.2.2.1 s hs) (fun d p q => far d (by omega) (by omega)), ?_, ?_, by rw [far 22 (by omega) (by omega)]; exact r6, fun i hi => by rw [far 23 (by omega) (by omega)]; exact r7 i hi⟩
  · rw [← hN, mwr_at]
  · rw [← hN, mwr_in _ (by omega), mwr_off _ _ _ (by omega), mwr_in _ (by omega)]; exact c2
  · rw [← hN, mwr_off _ _ _ (by omega)]
    dsimp only
    by_cases p : i = b
    · rw [if_pos p, p, mwr_at]
    · rw [if_neg p, mwr_in _ p, mwr_off _ _ _ (by omega)]; exact c3 i hi
  · dsimp only
    split
    · exact c4
    · exact c6 i hi
  · dsimp only
    by_cases p : i = b
    · rw [if_pos p]; exact ⟨fun e => (c8 b hb4).1 e.symm, c7⟩
    · rw [if_neg p]; exact ⟨c9 i b hi hb4 p, (c8 i hi).2⟩
  · dsimp only
    by_cases p : i = b
    · rw [if_pos p, if_neg (by omega)]; exact fun e => (c8 j hj).1 e.symm
    · rw [if_neg p]
      by_cases p2 : j = b
      · rw [if_pos p2]; exact (c8 i hi).1
      · rw [if_neg p2]; exact c9 i j hi hj hij
  · dsimp only at hi ⊢
    rw [if_neg (by omega)]
    have hil : i < a.2.1.length := by omega
    have := isSc_ge (c6 i (by omega)).1
    have ri := (r2 i hil).congr (hA.2.2.1 _ (List.getElem_mem _)) (fun d p q => far d (by omega) (by omega))
    have e : a.2.1[i] = l[i] := by
      simp only [h0]
      rw [List.getElem_append_left hi]
    rw [e] at ri
    exact ri
  · rw [← hN, mwr_in _ (by omega), mwr_off _ _ _ (by omega), mwr_at, hb]
  · rw [← hN, mwr_in _ (by omega), mwr_off _ _ _ (by omega), mwr_in _ (by omega)]; exact r5
theorem c_keep {M : Mem} {a : Abs} (hA : okA a) (h : RelC M a) : Ans (f_X6_keep M) (nI a.1.2.1.length) (a.1, a.2.1, some a.1, a.2.2.2) := by
  obtain ⟨cn, cs, ch, tb, hC⟩ := h
  obtain ⟨⟨c1, c2, c3, c4, c5, c6, c7, c8, c9⟩, r0, r1, r2, r3, r4, r5, r6, r7⟩ := id hC
  have gn := isSc_ge c4.1
  have f29 : ∀ {c : Nat}, isSq c → c + 27 ≤ 29 ∨ 29 + 27 ≤ c := fun h => isSc_far h.1 (Or.inl rfl) h.2
  unfold f_X6_keep
  rw [c1, mlS_ok c4.1, Option.bind_some]
  obtain ⟨M1, e1, s1, o1⟩ := scopy_ok hA.1 (cs := cn) (cd := 29) (by have := f29 c4; omega) r1
  rw [e1, Option.bind_some, mpz_1, Option.bind_some]
  have k0 : mwr M1 0 11 (bI true) 0 8 = nI cn := by rw [mwr_in _ (by omega), o1 0 (by omega)]; exact c1
  have kn := f29 c4
  dsimp only
  rw [k0, mlS_ok c4.1, Option.bind_some, mwr_off _ _ _ (show cn ≠ 0 by omega), o1 cn (by omega), r1.2.1]
  have far : ∀ c, c ≠ 0 → (c < 29 ∨ 56 ≤ c) → mwr M1 0 11 (bI true) c = M c := fun c h h2 => by rw [mwr_ne _ _ _ h, o1 c h2]
  refine ⟨_, rfl, cn, cs, ch, tb, ?_⟩
  refine ⟨⟨k0, by rw [mwr_in _ (by omega), o1 0 (by omega)]; exact c2, fun i hi => by rw [far 28 (by omega) (by omega)]; exact c3 i hi, c4, c5, c6, c7, c8, c9⟩, r0.congr (fun c p q => far c (by omega) (by omega)), r1.congr hA.1 (fun d p q => far d (by omega) (by omega)), fun i hi => (r2 i hi).congr (hA.2.2.1 _ (List.getElem_mem hi)) (fun d p q => ?_), fun s hs => ?_, by rw [mwr_in _ (by omega), o1 0 (by omega)]; exact r4, mwr_at _ _ _ _, by rw [far 22 (by omega) (by omega)]; exact r6, fun i hi => by rw [far 23 (by omega) (by omega)]; exact r7 i hi⟩
  · have hi4 : i < 4 := by have := hA.2.1; dsimp only at hi; omega
    have := f29 (c6 i hi4)
    have := isSc_ge (c6 i hi4).1
    exact far d (by omega) (by omega)
  · cases hs
    exact s1.congr hA.1 (fun d p q => mwr_ne _ _ _ (by omega))
theorem c_restore0 {M : Mem} {a : Abs} (h : RelC M a) (h0 : a.2.2.1 = none) : Ans (f_X6_restore M) (-5) a := by
  have hC0 := h
  obtain ⟨cn, cs, ch, tb, hC⟩ := h
  have r5 := hC.2.2.2.2.2.2.1
  unfold f_X6_restore
  rw [r5, h0, Option.isSome_none, bI_f, if_pos rfl]
  exact Ans.of hC0 _
theorem c_restore {M : Mem} {a : Abs} {s : Sta} (hA : okA a) (h : RelC M a) (hsn : a.2.2.1 = some s) : Ans (f_X6_restore M) (nI s.2.1.length) (s, recd a.2.1 a.1, a.2.2) := by
  obtain ⟨cn, cs, ch, tb, hC⟩ := h
  obtain ⟨⟨c1, c2, c3, c4, c5, c6, c7, c8, c9⟩, r0, r1, r2, r3, r4, r5, r6, r7⟩ := id hC
  have gs := isSc_ge c5.1
  have hs := hA.2.2.2.1 s hsn
  have h29 := isSc_far (Or.inl rfl) c5.1 (fun e => c5.2 e.symm)
  unfold f_X6_restore
  rw [r5, hsn, Option.isSome_some, bI_t, if_neg (by decide), c2, mlS_ok c5.1, Option.bind_some]
  obtain ⟨M1, e1, s1, o1⟩ := scopy_ok hs (cs := 29) (cd := cs) (by omega) (r3 s hsn)
  rw [e1, Option.bind_some]
  dsimp only
  obtain ⟨M2, cs', ch', e2, R2, o2⟩ := act_ok hC hA (M' := M1) (fun c hc => o1 c (by omega)) (by rw [o1 22 (by omega)]) (r0.congr (fun c _ _ => o1 c (by omega))) hs s1
  rw [e2, Option.bind_some]
  dsimp only
  rw [R2.now.1, mlS_ok c5.1, Option.bind_some, R2.now.2.2.1.2.1]
  exact ⟨_, rfl, cs, cs', ch', tb, R2⟩
theorem c_remove {M : Mem} {a : Abs} {k : Nat} {w : Wsh} (hA : okA a) (h : RelC M a) (ht : tw a.1 k = some w) : Ans (f_X6_removeWish (nI k) M) (nI (thr (setW a.1 k (false, w.2)))) (setW a.1 k (false, w.2), recd a.2.1 a.1, a.2.2) ∧ okS (setW a.1 k (false, w.2)) := by
  obtain ⟨cn, cs, ch, tb, hC⟩ := h
  obtain ⟨⟨c1, c2, c3, c4, c5, c6, c7, c8, c9⟩, r0, r1, r2, r3, r4, r5, r6, r7⟩ := id hC
  have gs := isSc_ge c5.1
  have hk8 := tw_lt hA.1 ht
  obtain ⟨rw1, e⟩ := c_find c4.1 r1 hA.1 ht
  obtain ⟨hk, hwk, -⟩ := tw_some ht
  have hw := tw_ok hA.1 ht
  have h8 := hA.1.2.2.1
  have hns := isSc_far c4.1 c5.1 c7
  obtain ⟨M1, e1, s1, o1⟩ := scopy_ok hA.1 (cs := cn) (cd := cs) (by omega) r1
  have okw0 : okW (false, w.2) := hw
  have hs' := okS_setW (k := k) hA.1 okw0
  have rk := s1.2.2.2.2 k hk
  rw [hwk] at rk
  have rk0 : RCw (mwr M1 (cs + 3 + 3 * k) 0 (bI false)) (cs + 3 + 3 * k) (false, w.2) := by
    obtain ⟨b0, b1, b2, b3, b4, b5, b6⟩ := rk
    exact ⟨mwr_at _ _ _ _, by rw [mwr_in _ (by omega)]; exact b1, by rw [mwr_in _ (by omega)]; exact b2, by rw [mwr_in _ (by omega)]; exact b3, by rw [mwr_in _ (by omega)]; exact b4, by rw [mwr_in _ (by omega)]; exact b5, fun p hp => ⟨by rw [mwr_off _ _ _ (by omega)]; exact (b6 p hp).1, (b6 p hp).2.congr (mwr_ne _ _ _ (by omega))⟩⟩
  have s2 := s1.setW (k := k) hA.1 rk0 (fun d h1 h2 h3 _ _ => mwr_ne _ _ _ h3)
  obtain ⟨M2, cs', ch', e2, R2, o2⟩ := act_ok hC hA (M' := mwr M1 (cs + 3 + 3 * k) 0 (bI false)) (fun c hc => by rw [mwr_ne _ _ _ (by omega), o1 c (by omega)]) (by rw [mwr_ne _ _ _ (by omega), o1 22 (by omega)]) (r0.congr (fun c _ _ => by rw [mwr_ne _ _ _ (by omega), o1 c (by omega)])) hs' s2
  refine ⟨?_, hs'⟩
  unfold f_X6_removeWish
  rw [c1, mlS_ok c4.1, Option.bind_some, e, Option.bind_some]
  dsimp only
  rw [if_neg (ref_ne c4.1 hk8), c2, mlS_ok c5.1, Option.bind_some, c1, mlS_ok c4.1, Option.bind_some, e1, Option.bind_some]
  dsimp only
  rw [mlW_ok hk8, Option.bind_some, mpz_0, Option.bind_some, e2, Option.bind_some]
  dsimp only
  rw [R2.now.1, mlS_ok c5.1, Option.bind_some, howManyThere_ok R2.now.2.2.1 hs', Option.bind_some]
  exact ⟨_, rfl, cs, cs', ch', tb, R2⟩
theorem c_remove0 {M : Mem} {a : Abs} {k : Nat} (hk9 : k < 1000) (hA : okA a) (h : RelC M a) (ht : tw a.1 k = none) : Ans (f_X6_removeWish (nI k) M) (-1) a := by
  have hC0 := h
  obtain ⟨cn, cs, ch, tb, hC⟩ := h
  obtain ⟨c1, c4, r1, r0⟩ := hC.now
  unfold f_X6_removeWish
  rw [c1, mlS_ok c4, Option.bind_some, c_find0 hk9 c4 r1 hA.1 ht, Option.bind_some]
  dsimp only
  rw [if_pos rfl]
  exact Ans.of hC0 _
/-- event(): a part would be too large, or the state behind it -/
theorem c_event {M : Mem} {a : Abs} {set : Nat} (hA : okA a) (h : RelC M a) (hset : set < 64) (hend : a.1.1 = false) (hl : a.1.2.1.length < 40) : Ans (f_X6_event (nI set) M) (-3) a ∨ (a.1.2.2.any (bgW set) = false ∧ Ans (f_X6_event (nI set) M) (nI (evN set a.1 a.1.2.2.length)) (evF set a.1, recd a.2.1 a.1, a.2.2)) := by
  obtain ⟨cn, cs, ch, tb, hC⟩ := h
  obtain ⟨⟨c1, c2, c3, c4, c5, c6, c7, c8, c9⟩, r0, r1, r2, r3, r4, r5, r6, r7⟩ := id hC
  have gs := isSc_ge c5.1
  have hns := isSc_far c4.1 c5.1 c7
  have h40 := hA.1.1
  have gn := isSc_ge c4.1
  obtain ⟨M1, e1, s1, o1⟩ := scopy_ok hA.1 (cs := cn) (cd := cs) (by omega) r1
  obtain ⟨M2, tb2, f2, o2, g⟩ := cev_59 hA.1 hset c4.1 gs.1 hns fuelN 0 0 M1 tb (Nat.zero_le _) (by have := hA.1.2.2.1; unfold fuelN; omega) (r0.congr (fun c _ _ => o1 c (by omega))) (by rw [o1 0 (by omega)]; exact c1) (r1.congr hA.1 (fun d p q => o1 d (by omega))) (by unfold evS; rw [pW_zero]; exact s1) rfl (by rw [List.take_zero]; rfl)
  have o12 : ∀ c, c = 0 ∨ (16 ≤ c ∧ c ≠ 18 ∧ (c < cs ∨ cs + 27 ≤ c)) → M2 c = M c := fun c hc => by rw [o2 c hc, o1 c (by omega)]
  have hd : f_X6_event (nI set) M = f_X6_event_59 fuelN (nI set) cs (nI 0) (nI 0) M1 := by
    unfold f_X6_event f_X6_event_10
    rw [if_neg (neg_n (by omega)), if_pos ((nlt (by omega) (by omega)).mpr hset), c1, mlS_ok c4.1, Option.bind_some]
    simp only [r1.1, hend, bI_f, if_true]
    rw [Option.bind_some]
    simp only [r1.2.1]
    rw [if_pos ((nlt (by omega) (by omega)).mpr hl), c2, mlS_ok c5.1, Option.bind_some, Option.bind_some, e1, Option.bind_some]
  rw [hd]
  rcases g with ⟨g1, g2⟩ | ⟨g1, g2, g3⟩
  · left
    rw [g1]
    refine ⟨_, rfl, cn, cs, ch, tb2, ⟨by rw [o12 0 (by omega)]; exact c1, by rw [o12 0 (by omega)]; exact c2, fun i hi => by rw [o12 28 (by omega)]; exact c3 i hi, c4, c5, c6, c7, c8, c9⟩, f2, r1.congr hA.1 (fun d p q => o12 d (by omega)), fun i hi => ?_, fun s hs => ?_, by rw [o12 0 (by omega)]; exact r4, by rw [o12 0 (by omega)]; exact r5, by rw [o12 22 (by omega)]; exact r6, fun i hi => by rw [o12 23 (by omega)]; exact r7 i hi⟩
    · have hi4 := hA.2.1
      have hfar := isSc_far (c6 i (by omega)).1 c5.1 (c8 i (by omega)).2
      have hge := isSc_ge (c6 i (by omega)).1
      exact (r2 i hi).congr (hA.2.2.1 _ (List.getElem_mem hi)) (fun d p q => o12 d (by omega))
    · have hfar := isSc_far (Or.inl rfl : isSc 29) c5.1 (fun z => c5.2 z.symm)
      exact (r3 s hs).congr (hA.2.2.2.1 s hs) (fun d p q => o12 d (by omega))
  · right
    refine ⟨g1, ?_⟩
    rw [g3]
    unfold evFin
    have oka := evF_ok hA.1 hset hl
    obtain ⟨b0, b1, b2, b3, b4⟩ := id g2
    have b1' : M2 cs 1 = nI a.1.2.1.length := b1
    rw [b1', mst_n hl (by omega), Option.bind_some, mwr_off _ _ _ (show cs ≠ cs + 1 by omega), b1', nI_add, mpi_n, Option.bind_some]
    have sF : RC (mwr (mwr M2 (cs + 1) a.1.2.1.length (nI set)) cs 1 (nI (a.1.2.1.length + 1))) cs (evF set a.1) := by
      refine ⟨by rw [mwr_in _ (by omega), mwr_off _ _ _ (by omega)]; exact b0, ?_, ?_, fun i hi => ?_, fun k hk => ?_⟩
      · rw [mwr_at]
        show nI (a.1.2.1.length + 1) = nI (a.1.2.1 ++ [set]).length
        rw [List.length_append]; rfl
      · rw [mwr_in _ (by omega), mwr_off _ _ _ (by omega)]
        show M2 cs 2 = nI (a.1.2.2.map (evW set (nI a.1.2.1.length))).length
        rw [← pW_all]
        exact b2
      · have hi2 : i < (a.1.2.1 ++ [set]).length := hi
        suffices fin : mwr (mwr M2 (cs + 1) a.1.2.1.length (nI set)) cs 1 (nI (a.1.2.1.length + 1)) (cs + 1) i = nI ((a.1.2.1 ++ [set])[i]'hi2) from fin
        rw [mwr_off _ _ _ (by omega)]
        rw [List.length_append, List.length_singleton] at hi2
        by_cases z : i = a.1.2.1.length
        · subst z
          rw [mwr_at, List.getElem_concat_length (by rfl)]
        · rw [mwr_in _ z, List.getElem_append_left (by omega)]
          exact b3 i (by show i < a.1.2.1.length; omega)
      · have hk2 : k < (a.1.2.2.map (evW set (nI a.1.2.1.length))).length := hk
        suffices fin : RCw (mwr (mwr M2 (cs + 1) a.1.2.1.length (nI set)) cs 1 (nI (a.1.2.1.length + 1))) (cs + 3 + 3 * k) ((a.1.2.2.map (evW set (nI a.1.2.1.length)))[k]'hk2) from fin
        have hk3 : k < (pW (evW set (nI a.1.2.1.length)) a.1.2.2 a.1.2.2.length).length := by rw [pW_all]; exact hk2
        have hb4 : RCw M2 (cs + 3 + 3 * k) ((pW (evW set (nI a.1.2.1.length)) a.1.2.2 a.1.2.2.length)[k]'hk3) := b4 k hk3
        simp only [pW_all] at hb4
        exact hb4.congr (by rw [mwr_ne _ _ _ (by omega), mwr_ne _ _ _ (by omega)]) (by rw [mwr_ne _ _ _ (by omega), mwr_ne _ _ _ (by omega)]) (by rw [mwr_ne _ _ _ (by omega), mwr_ne _ _ _ (by omega)])
    obtain ⟨M3, cs', ch', e3, R3, o3⟩ := act_ok hC hA (M' := mwr (mwr M2 (cs + 1) a.1.2.1.length (nI set)) cs 1 (nI (a.1.2.1.length + 1))) (fun c hc => by rw [mwr_ne _ _ _ (by omega), mwr_ne _ _ _ (by omega), o12 c (by omega)]) (by rw [mwr_ne _ _ _ (by omega), mwr_ne _ _ _ (by omega), o12 22 (by omega)]) (f2.congr (fun c _ _ => by rw [mwr_ne _ _ _ (by omega), mwr_ne _ _ _ (by omega)])) oka sF
    rw [e3, Option.bind_some]
    exact ⟨_, rfl, cs, cs', ch', tb2, R3⟩
/-- behind the end -/
theorem c_event0 {M : Mem} {a : Abs} {set : Nat} (h : RelC M a) (hset : set < 64) (hend : a.1.1 = true) : Ans (f_X6_event (nI set) M) (-4) a := by
  have hC0 := h
  obtain ⟨cn, cs, ch, tb, hC⟩ := h
  obtain ⟨c1, c4, r1, r0⟩ := hC.now
  unfold f_X6_event f_X6_event_10
  rw [if_neg (neg_n (by omega)), if_pos ((nlt (by omega) (by omega)).mpr hset), c1, mlS_ok c4, Option.bind_some]
  simp only [r1.1, hend, bI_t]
  rw [if_neg (by decide)]
  exact Ans.of hC0 _
theorem c_end0 {M : Mem} {a : Abs} (h : RelC M a) (hend : a.1.1 = true) : Ans (f_X6_end M) (-4) a := by
  have hC0 := h
  obtain ⟨cn, cs, ch, tb, hC⟩ := h
  obtain ⟨c1, c4, r1, r0⟩ := hC.now
  unfold f_X6_end
  rw [c1, mlS_ok c4, Option.bind_some]
  simp only [r1.1, hend, bI_t]
  rw [if_neg (by decide)]
  exact Ans.of hC0 _
theorem c_end {M : Mem} {a : Abs} (hA : okA a) (h : RelC M a) (hend : a.1.1 = false) : Ans (f_X6_end M) (nI (enN a.1 a.1.2.2.length)) (enS a.1 a.1.2.2.length, recd a.2.1 a.1, a.2.2) := by
  obtain ⟨cn, cs, ch, tb, hC⟩ := h
  obtain ⟨⟨c1, c2, c3, c4, c5, c6, c7, c8, c9⟩, r0, r1, r2, r3, r4, r5, r6, r7⟩ := id hC
  have gs := isSc_ge c5.1
  have hns := isSc_far c4.1 c5.1 c7
  unfold f_X6_end
  rw [c1, mlS_ok c4.1, Option.bind_some]
  simp only [r1.1, hend, bI_f, if_true]
  rw [c2, mlS_ok c5.1, Option.bind_some, Option.bind_some]
  obtain ⟨M1, e1, s1, o1⟩ := scopy_ok hA.1 (cs := cn) (cd := cs) (by omega) r1
  rw [e1, Option.bind_some]
  dsimp only
  rw [mpz_1, Option.bind_some]
  have s2 : RC (mwr M1 cs 0 (bI true)) cs (enS a.1 0) := by
    obtain ⟨b0, b1, b2, b3, b4⟩ := s1
    refine ⟨mwr_at _ _ _ _, by rw [mwr_in _ (by omega)]; exact b1, ?_, fun i hi => by rw [mwr_off _ _ _ (by omega)]; exact b3 i hi, fun k hk => ?_⟩
    · rw [mwr_in _ (by omega)]
      show M1 cs 2 = nI (pW enW a.1.2.2 0).length
      rw [pW_zero]; exact b2
    · have hk2 : k < (pW enW a.1.2.2 0).length := hk
      suffices fin : RCw (mwr M1 cs 0 (bI true)) (cs + 3 + 3 * k) ((pW enW a.1.2.2 0)[k]'hk2) from fin
      simp only [pW_zero] at hk2 ⊢
      exact (b4 k hk2).congr (mwr_ne _ _ _ (by omega)) (mwr_ne _ _ _ (by omega)) (mwr_ne _ _ _ (by omega))
  obtain ⟨M2, tb2, e2, f2, s3, o2⟩ := cend_35 hA.1 gs.1 fuelN 0 0 (mwr M1 cs 0 (bI true)) tb (Nat.zero_le _) (by have := hA.1.2.2.1; unfold fuelN; omega) (r0.congr (fun c _ _ => by rw [mwr_ne _ _ _ (by omega), o1 c (by omega)])) s2 rfl
  rw [e2]
  have oka := enS_ok hA.1 a.1.2.2.length
  obtain ⟨M3, cs', ch', e3, R3, o3⟩ := act_ok hC hA (M' := M2) (fun c hc => by rw [o2 c (by omega), mwr_ne _ _ _ (by omega), o1 c (by omega)]) (by rw [o2 22 (by omega), mwr_ne _ _ _ (by omega), o1 22 (by omega)]) f2 oka s3
  rw [e3, Option.bind_some]
  exact ⟨_, rfl, cs, cs', ch', tb2, R3⟩
/-- addWish(): the text has a fault -/
theorem c_addF {M : Mem} {a : Abs} {k : Nat} (hA : okA a) (h : RelC M a) (hf : flt a.2.2.2 true 0 0 = some k) : Ans (f_X6_addWish M) ((-100) - nI k) a := by
  have hC0 := h
  obtain ⟨cn, cs, ch, tb, hC⟩ := h
  obtain ⟨⟨c1, c2, c3, c4, c5, c6, c7, c8, c9⟩, r0, r1, r2, r3, r4, r5, r6, r7⟩ := id hC
  have h60 := hA.2.2.2.2.1
  have hk60 := flt_le _ _ _ _ _ hf
  unfold f_X6_addWish
  rw [findFault_ok h60 r6 r7, Option.bind_some, hf]
  dsimp only
  have q : ¬ fltI (some k) < nI 0 := neg_n (by omega)
  rw [if_neg q]
  exact Ans.of hC0 _
theorem c_addE {M : Mem} {a : Abs} (hA : okA a) (h : RelC M a) (hf : flt a.2.2.2 true 0 0 = none) (hend : a.1.1 = true) : Ans (f_X6_addWish M) (-4) a := by
  have hC0 := h
  obtain ⟨cn, cs, ch, tb, hC⟩ := h
  obtain ⟨⟨c1, c2, c3, c4, c5, c6, c7, c8, c9⟩, r0, r1, r2, r3, r4, r5, r6, r7⟩ := id hC
  have h60 := hA.2.2.2.2.1
  unfold f_X6_addWish
  rw [findFault_ok h60 r6 r7, Option.bind_some, hf]
  dsimp only
  have q : fltI none < nI 0 := by decide
  rw [if_pos q, c1, mlS_ok c4.1, Option.bind_some]
  simp only [r1.1, hend, bI_t]
  rw [if_neg (by decide)]
  exact Ans.of hC0 _
theorem c_add {M : Mem} {a : Abs} (hA : okA a) (h : RelC M a) (hf : flt a.2.2.2 true 0 0 = none) (hend : a.1.1 = false) (hl : a.1.2.2.length < 8) (h8t : (its1 20 (rdT a.2.2.2)).length ≤ 8) : Ans (f_X6_addWish M) (nI a.1.2.2.length) (addS a.1 (rdT a.2.2.2), recd a.2.1 a.1, a.2.2) ∧ AR (rdT a.2.2.2) = true ∧ okPt (rdT a.2.2.2) := by
  obtain ⟨cn, cs, ch, tb, hC⟩ := h
  obtain ⟨⟨c1, c2, c3, c4, c5, c6, c7, c8, c9⟩, r0, r1, r2, r3, r4, r5, r6, r7⟩ := id hC
  have h60 := hA.2.2.2.2.1
  unfold f_X6_addWish
  rw [findFault_ok h60 r6 r7, Option.bind_some, hf]
  dsimp only
  have q : fltI none < nI 0 := by decide
  rw [if_pos q, c1, mlS_ok c4.1, Option.bind_some]
  simp only [r1.1, hend, bI_f, if_true]
  obtain ⟨N1, g1, g2, g3⟩ := release_ok r0 (mark := 16) (Nat.le_refl _) (by omega)
  rw [show 16 - 16 = 0 by omega, List.take_zero] at g2
  rw [g1, Option.bind_some]
  dsimp only
  obtain ⟨idc, N2, tc, k1, k2, k3, k4, k5, k6⟩ := read_ok g2 h60 (by rw [g3 22 (by omega) (by omega)]; exact r6) (fun i hi => by rw [g3 23 (by omega) (by omega)]; exact r7 i hi)
  rw [k1, Option.bind_some]
  dsimp only
  have hC2 : RelC' N2 a cn cs ch tc := hC.keep hA (fun c hc => by rw [k6.1 c (by omega), g3 c (by omega) (by omega)]) (by rw [k6.2, g3 22 (by omega) (by omega)]) k2
  obtain ⟨N3, hb⟩ := bring_ok hC2 hA k3 k4 (by omega) hl
  have hok : okPt (rdT a.2.2.2) := ⟨h8t, fun x hx => Nat.le_trans (its1_size hx) k5⟩
  refine ⟨?_, by rw [← k4]; exact dn_AR k2.1 k3, hok⟩
  rcases hb with ⟨b1, b2, b3⟩ | ⟨b1, b2, b3⟩
  · exact absurd hok b3
  · rw [b2, Option.bind_some]
    exact ⟨_, rfl, b3⟩
/-- join() -/
def jnT (any : Nat) (w1 w2 : Wsh) : T := joinT (if any = 0 then 20 else 21) [joinT 20 (wP w1), joinT 20 (wP w2)]
theorem c_join {M : Mem} {a : Abs} {i j any : Nat} {w1 w2 : Wsh} (hA : okA a) (h : RelC M a) (ht1 : tw a.1 i = some w1) (ht2 : tw a.1 j = some w2) (hany : any < 2) (hend : a.1.1 = false) : Ans (f_X6_join (nI i) (nI j) (nI any) M) (-3) a ∨ (a.1.2.2.length < 8 ∧ okPt (jnT any w1 w2) ∧ AR (jnT any w1 w2) = true ∧ Ans (f_X6_join (nI i) (nI j) (nI any) M) (nI a.1.2.2.length) (addS a.1 (jnT any w1 w2), recd a.2.1 a.1, a.2.2)) := by
  obtain ⟨cn, cs, ch, tb, hC⟩ := h
  obtain ⟨⟨c1, c2, c3, c4, c5, c6, c7, c8, c9⟩, r0, r1, r2, r3, r4, r5, r6, r7⟩ := id hC
  have gn := isSc_ge c4.1
  have hi8 := tw_lt hA.1 ht1
  have hj8 := tw_lt hA.1 ht2
  obtain ⟨rci, e1⟩ := c_find c4.1 r1 hA.1 ht1
  obtain ⟨rcj, e2⟩ := c_find c4.1 r1 hA.1 ht2
  have hwi := tw_ok hA.1 ht1
  have hwj := tw_ok hA.1 ht2
  obtain ⟨kk, hkk0⟩ : ∃ kk, kk = if any = 0 then 20 else 21 := ⟨_, rfl⟩
  have hkk : kk = 20 ∨ kk = 21 := by rw [hkk0]; split; exact Or.inl rfl; exact Or.inr rfl
  have hd : f_X6_join (nI i) (nI j) (nI any) M = (f_X1_release (nI 16) M).bind fun q9 => (maW (nI (cn + 3 + 3 * i))).bind fun c10 => (f_X6_allOfParts c10 q9.2).bind fun q11 => (maW (nI (cn + 3 + 3 * j))).bind fun c12 => (f_X6_allOfParts c12 q11.2).bind fun q13 => f_X6_join_86 q11.1 q13.1 (nI kk) q13.2 := by
    unfold f_X6_join f_X6_join_30
    rw [c1, mlS_ok c4.1, Option.bind_some, e1, Option.bind_some]
    dsimp only
    rw [c1, mlS_ok c4.1, Option.bind_some, e2, Option.bind_some]
    dsimp only
    rw [if_neg (ref_ne c4.1 hi8), if_neg (ref_ne c4.1 hj8), c1, mlS_ok c4.1, Option.bind_some]
    simp only [r1.1, hend, bI_f, if_true]
    rw [hkk0]
    by_cases z : any = 0
    · subst z
      rfl
    · have : any = 1 := by omega
      subst this
      rfl
  rw [hd]
  unfold jnT
  rw [← hkk0]
  have hUl := unv_len hwi.2.2 hwj.2.2
  have hUk := unv_nkid hwi.2.2 hwj.2.2
  obtain ⟨u1, u2, u3, u4⟩ := unv_l (l1 := wP w1) (l2 := wP w2)
  obtain ⟨N1, g1, g2, g3⟩ := release_ok r0 (mark := 16) (Nat.le_refl _) (by omega)
  rw [show 16 - 16 = 0 by omega, List.take_zero] at g2
  have n0 : ∀ c, c = 0 ∨ 13 ≤ c → N1 c = M c := fun c hc => g3 c (by omega) (by omega)
  rw [g1, Option.bind_some, maW_ok c4.1 hi8, Option.bind_some]
  dsimp only
  obtain ⟨p, N2, tc, k1, k2, k3, k4, k5, k6⟩ := callOf_ok (cw := cn + 3 + 3 * i) (by omega) hwi hUl hUk u1 u2 g2 (rci.congr (n0 _ (by omega)) (n0 _ (by omega)) (n0 _ (by omega))) (fun x hx => by cases hx)
  rw [k1, Option.bind_some, maW_ok c4.1 hj8, Option.bind_some]
  dsimp only
  have n2 : FQ M N2 := fun c hc => by rw [k6 c hc, n0 c (by omega)]
  obtain ⟨q, N3, td, l1, l2, l3, l4, l5, l6⟩ := callOf_ok (cw := cn + 3 + 3 * j) (by omega) hwj hUl hUk u3 u4 k2 (rcj.q (by omega) n2) k5
  have n3 : FQ M N3 := n2.tr l6
  rw [l1, Option.bind_some]
  dsimp only
  unfold f_X6_join_86
  have ip : p < 16 + ([] ++ tc ++ td).length := by rw [List.length_append]; omega
  have dp : dn ([] ++ tc ++ td) p = joinT 20 (wP w1) := by rw [dn_app k3]; exact k4
  obtain ⟨q1, q2⟩ := room l2.1 l5 hUl hUk
  have z1 := jT_size (k := 20) hwi.2.2
  have z2 := jT_size (k := 20) hwj.2.2
  have y1 := wdt_le kk (joinT 20 (wP w1))
  have y2 := wdt_le kk (joinT 20 (wP w2))
  obtain ⟨r, N4, te, t1, t2, t3, t4, -, -, -, t8⟩ := two_ok l2 hkk ip l3 (by rw [dp, l4]; omega) (by rw [dp, l4]; exact ⟨by omega, by omega⟩)
  rw [dp, l4] at t4
  have hsz := two_size (k := kk) hwi.2.2 hwj.2.2
  rw [t1, Option.bind_some]
  dsimp only
  have hC2 : RelC' N4 a cn cs ch _ := hC.keep hA (fun c hc => by rw [t8 c (by omega), n3 c (by omega)]) (by rw [t8 22 (by omega), n3 22 (by omega)]) t2
  by_cases hl : a.1.2.2.length < 8
  · obtain ⟨N5, hb⟩ := bring_ok hC2 hA t3 t4 hsz hl
    rcases hb with ⟨b1, b2, b3⟩ | ⟨b1, b2, b3⟩
    · left
      rw [b1, Option.bind_some]
      exact ⟨_, rfl, b2⟩
    · right
      refine ⟨hl, b1, by rw [← t4]; exact dn_AR t2.1 t3, ?_⟩
      rw [b2, Option.bind_some]
      exact ⟨_, rfl, b3⟩
  · left
    rw [bring_full hC2 hA t3 t4 hl, Option.bind_some]
    exact ⟨_, rfl, cn, cs, ch, _, hC2⟩
theorem c_join0 {M : Mem} {a : Abs} {i j : Nat} {z : Int32} (hi9 : i < 1000) (hj9 : j < 1000) (hA : okA a) (h : RelC M a) (ht : tw a.1 i = none ∨ tw a.1 j = none) : Ans (f_X6_join (nI i) (nI j) z M) (-1) a := by
  have hC0 := h
  obtain ⟨cn, cs, ch, tb, hC⟩ := h
  obtain ⟨c1, c4, r1, r0⟩ := hC.now
  unfold f_X6_join f_X6_join_30
  rw [c1, mlS_ok c4, Option.bind_some]
  cases e1 : tw a.1 i with
  | none =>
    rw [c_find0 hi9 c4 r1 hA.1 e1, Option.bind_some]
    dsimp only
    rw [c1, mlS_ok c4, Option.bind_some]
    cases e2 : tw a.1 j with
    | none =>
      rw [c_find0 hj9 c4 r1 hA.1 e2, Option.bind_some]
      dsimp only
      rw [if_pos rfl]
      exact Ans.of hC0 _
    | some w =>
      rw [(c_find c4 r1 hA.1 e2).2, Option.bind_some]
      dsimp only
      rw [if_pos rfl]
      exact Ans.of hC0 _
  | some w =>
    have e2 : tw a.1 j = none := by
      rcases ht with q | q
      · rw [e1] at q; cases q
      · exact q
    rw [(c_find c4 r1 hA.1 e1).2, Option.bind_some]
    dsimp only
    rw [c1, mlS_ok c4, Option.bind_some, c_find0 hj9 c4 r1 hA.1 e2, Option.bind_some]
    dsimp only
    rw [if_neg (ref_ne c4 (tw_lt hA.1 e1)), if_pos rfl]
    exact Ans.of hC0 _
