/-! addWish() -/
/-- the head of bring -/
theorem bring_head {M : Mem} {tb : List T} {id : Nat} {t : T} (r0 : FT M tb) (hid : id < 16 + tb.length) (hd : dn tb id = t) : f_X6_bring (nI id) M = f_X6_bring_37 (nI id) (bI (decide (kind t = 20))) (nI (its1 20 t).length) M := by
  have hl2 := r0.2.1
  have hAt : AR t = true := by rw [← hd]; exact dn_AR r0.1 hid
  have a1 := (r0.2.2.2.2.2.1 id hid).1
  have a2 := (r0.2.2.2.2.2.1 id hid).2.1
  rw [hd] at a1 a2
  have hkl := AR_le hAt
  unfold f_X6_bring f_X6_bring_19
  rw [mrd_n (by omega) (by omega), Option.bind_some, a1]
  by_cases hk : kind t = 20
  · have e : its1 20 t = kids t := if_pos hk
    rw [if_pos (by rw [hk]), if_neg (by decide), mrd_n (by omega) (by omega), Option.bind_some, a2, decide_eq_true hk, e]
    rfl
  · have e : its1 20 t = [t] := if_neg hk
    rw [if_neg (fun q => hk ((neq (by omega) (by omega)).mp q)), if_pos rfl, decide_eq_false hk, e]
    rfl
/-- no room for another wish -/
theorem bring_full {M : Mem} {a : Abs} {cn cs : Nat} {ch : Nat → Nat} {tb : List T} {id : Nat} {t : T} (hC : RelC' M a cn cs ch tb) (hA : okA a) (hid : id < 16 + tb.length) (hd : dn tb id = t) (hw8 : ¬ a.1.2.2.length < 8) : f_X6_bring (nI id) M = some ((-3), M) := by
  have hC2 := hC
  obtain ⟨⟨c1, c2, c3, c4, c5, c6, c7, c8, c9⟩, r0, r1, r2, r3, r4, r5, r6, r7⟩ := hC2
  have h8 := hA.1.2.2.1
  rw [bring_head r0 hid hd]
  unfold f_X6_bring_37 f_X6_bring_60
  rw [c1, mlS_ok c4.1, Option.bind_some, r1.2.2.1, if_neg (fun q => hw8 ((nlt (by omega) (by omega)).mp q))]
theorem bring_ok {M : Mem} {a : Abs} {cn cs : Nat} {ch : Nat → Nat} {tb : List T} {id : Nat} {t : T} (hC : RelC' M a cn cs ch tb) (hA : okA a) (hid : id < 16 + tb.length) (hd : dn tb id = t) (hsz : size t < 1000000) (hw8 : a.1.2.2.length < 8) : ∃ M', (f_X6_bring (nI id) M = some ((-3), M') ∧ RelC M' a ∧ ¬ okPt t) ∨ (okPt t ∧ f_X6_bring (nI id) M = some (nI a.1.2.2.length, M') ∧ RelC M' (addS a.1 t, recd a.2.1 a.1, a.2.2)) := by
  have hC2 := hC
  obtain ⟨⟨c1, c2, c3, c4, c5, c6, c7, c8, c9⟩, r0, r1, r2, r3, r4, r5, r6, r7⟩ := hC2
  have gn := isSc_ge c4.1
  have gs := isSc_ge c5.1
  have hns := isSc_far c4.1 c5.1 c7
  have hl2 := r0.2.1
  have hAt : AR t = true := by rw [← hd]; exact dn_AR r0.1 hid
  have a1 := (r0.2.2.2.2.2.1 id hid).1
  have a2 := (r0.2.2.2.2.2.1 id hid).2.1
  rw [hd] at a1 a2
  have hkl := AR_le hAt
  have e0 := bring_head r0 hid hd
  rw [e0]
  unfold f_X6_bring_37 f_X6_bring_60
  have hlen : (its1 20 t).length < 1000000 := by
    have h1 := wdt_le 20 t
    rw [← its1_len] at h1
    omega
  rw [c1, mlS_ok c4.1, Option.bind_some, r1.2.2.1, if_pos ((nlt (by omega) (by omega)).mpr hw8)]
  by_cases h8 : 8 < (its1 20 t).length
  · rw [if_pos ((nlt (by omega) (by omega)).mpr h8)]
    exact ⟨M, Or.inl ⟨rfl, ⟨cn, cs, ch, tb, hC⟩, fun z => by have := z.1; omega⟩⟩
  · rw [if_neg (fun q => h8 ((nlt (by omega) (by omega)).mp q)), c2, mlS_ok c5.1, Option.bind_some, Option.bind_some]
    obtain ⟨M1, e1, s1, o1⟩ := scopy_ok hA.1 (cs := cn) (cd := cs) (by omega) r1
    rw [e1, Option.bind_some]
    dsimp only
    rw [o1 0 (by omega), c2, mlS_ok c5.1, Option.bind_some, mlW_ok hw8, Option.bind_some]
    obtain ⟨M2, f2, o2, g⟩ := bring_89 (wl := a.1.2.2.length) (cw := cs + 3 + 3 * a.1.2.2.length) (by omega) hid hd hsz (by omega) fuelN 0 M1 (Nat.zero_le _) (by unfold fuelN; omega) (r0.congr (fun c _ _ => o1 c (by omega))) (fun j _ h => by omega)
    have o12 : ∀ c, c = 0 ∨ (16 ≤ c ∧ c ≠ 18 ∧ (c < cs ∨ cs + 27 ≤ c)) → M2 c = M c := fun c hc => by rw [o2 c (by omega), o1 c (by omega)]
    rcases g with ⟨g1, g2⟩ | ⟨g1, g2, g3⟩
    · exact ⟨M2, Or.inl ⟨g1, ⟨cn, cs, ch, tb, hC.spare hA (fun c hc => o12 c (by omega)) (by rw [o12 22 (by omega)]) f2⟩, g2⟩⟩
    · rw [List.drop_zero] at g1
      have hok : okPt t := ⟨by omega, g1⟩
      have okl := its1_okP hAt hok
      rw [g3]
      unfold bfin f_X5_come
      generalize hcw : cs + 3 + 3 * a.1.2.2.length = cw at *
      rw [o12 0 (by omega), c1, mlS_ok c4.1, Option.bind_some, mpz_1, Option.bind_some, mpi_n, Option.bind_some]
      have hCP3 : ∀ p (h : p < (its1 20 t).length), CP (mwr (mwr M2 cw 0 (bI true)) cw 2 (nI (its1 20 t).length)) cw p (its1 20 t)[p] := fun p hp => ⟨by rw [mwr_off _ _ _ (by omega), mwr_off _ _ _ (by omega)]; exact (g2 p hp).1, (g2 p hp).2.congr (by rw [mwr_ne _ _ _ (by omega), mwr_ne _ _ _ (by omega)])⟩
      rw [verdictOf_ok okl (mwr_at _ _ _ _) hCP3, Option.bind_some]
      dsimp only
      rw [o12 cn (by omega), r1.2.1, mpi_n, Option.bind_some, mpi_n, Option.bind_some, mpi_n, Option.bind_some, mpi_n, Option.bind_some, Option.bind_some]
      dsimp only
      generalize hM3 : mwr (mwr (mwr (mwr (mwr (mwr M2 cw 0 (bI true)) cw 2 (nI (its1 20 t).length)) cw 1 (nI (wv (its1 20 t)))) cw 3 (-5)) cw 4 (nI 0)) cw 5 (nI a.1.2.1.length) = M3
      have far : ∀ c, c ≠ cw → M3 c = M2 c := fun c hc => by rw [← hM3, mwr_ne _ _ _ hc, mwr_ne _ _ _ hc, mwr_ne _ _ _ hc, mwr_ne _ _ _ hc, mwr_ne _ _ _ hc, mwr_ne _ _ _ hc]
      have rw3 : RCw M3 cw (newW a.1 t) := by
        refine ⟨?_, ?_, ?_, ?_, ?_, ?_, fun p hp => ⟨by rw [far _ (by omega)]; exact (g2 p hp).1, (g2 p hp).2.congr (far _ (by omega))⟩⟩
        · rw [← hM3, mwr_in _ (by omega), mwr_in _ (by omega), mwr_in _ (by omega), mwr_in _ (by omega), mwr_in _ (by omega), mwr_at]; rfl
        · rw [← hM3, mwr_in _ (by omega), mwr_in _ (by omega), mwr_in _ (by omega), mwr_at]; rfl
        · rw [← hM3, mwr_in _ (by omega), mwr_in _ (by omega), mwr_in _ (by omega), mwr_in _ (by omega), mwr_at]; rfl
        · rw [← hM3, mwr_in _ (by omega), mwr_in _ (by omega), mwr_at]; rfl
        · rw [← hM3, mwr_in _ (by omega), mwr_at]; rfl
        · rw [← hM3, mwr_at]; rfl
      have far0 : ∀ c, (c < cw ∨ cw + 3 ≤ c) → 16 ≤ c → c ≠ 18 → M3 c = M1 c := fun c p q r => by rw [far c (by omega), o2 c (by omega)]
      have z0 : M3 0 = M 0 := by rw [far 0 (by omega), o12 0 (by omega)]
      have zc : M3 cs 2 = nI a.1.2.2.length := by rw [far0 cs (by omega) (by omega) (by omega)]; exact s1.2.2.1
      rw [z0, c2, mlS_ok c5.1, Option.bind_some, zc, nI_add, mpi_n, Option.bind_some]
      have oka := addS_ok hA.1 hw8 hAt hok
      have h40 := hA.1.1
      have sF : RC (mwr M3 cs 2 (nI (a.1.2.2.length + 1))) cs (addS a.1 t) := by
        obtain ⟨b0, b1, b2, b3, b4⟩ := s1
        refine ⟨by rw [mwr_in _ (by omega), far0 cs (by omega) (by omega) (by omega)]; exact b0, by rw [mwr_in _ (by omega), far0 cs (by omega) (by omega) (by omega)]; exact b1, ?_, fun i hi => ?_, fun k hk => ?_⟩
        · rw [mwr_at]
          show nI (a.1.2.2.length + 1) = nI (a.1.2.2 ++ [newW a.1 t]).length
          rw [List.length_append]; rfl
        · rw [mwr_off _ _ _ (by omega), far0 (cs + 1) (by omega) (by omega) (by omega)]; exact b3 i hi
        · have hk2 : k < (a.1.2.2 ++ [newW a.1 t]).length := hk
          suffices fin : RCw (mwr M3 cs 2 (nI (a.1.2.2.length + 1))) (cs + 3 + 3 * k) ((a.1.2.2 ++ [newW a.1 t])[k]'hk2) from fin
          rw [List.length_append, List.length_singleton] at hk2
          by_cases z : k = a.1.2.2.length
          · subst z
            rw [List.getElem_concat_length (by rfl), hcw]
            exact rw3.congr (mwr_ne _ _ _ (by omega)) (mwr_ne _ _ _ (by omega)) (mwr_ne _ _ _ (by omega))
          · rw [List.getElem_append_left (by omega)]
            exact (b4 k (by omega)).congr (by rw [mwr_ne _ _ _ (by omega), far0 _ (by omega) (by omega) (by omega)]) (by rw [mwr_ne _ _ _ (by omega), far0 _ (by omega) (by omega) (by omega)]) (by rw [mwr_ne _ _ _ (by omega), far0 _ (by omega) (by omega) (by omega)])
      obtain ⟨M4, cs', ch', e4, R4, o4⟩ := act_ok hC hA (M' := mwr M3 cs 2 (nI (a.1.2.2.length + 1))) (fun c hc => by rw [mwr_ne _ _ _ (by omega), far c (by omega), o12 c (by omega)]) (by rw [mwr_ne _ _ _ (by omega), far 22 (by omega), o12 22 (by omega)]) (f2.congr (fun c _ _ => by rw [mwr_ne _ _ _ (by omega), far c (by omega)])) oka sF
      rw [e4, Option.bind_some]
      exact ⟨M4, Or.inr ⟨hok, rfl, ⟨cs, cs', ch', tb, R4⟩⟩⟩
