/-! addWish() -/
/-- the head of bring -/
theorem bring_head {M : Mem} {tb : List T} {id : Nat} {t : T} (r0 : FT M tb) (hid : id < 16 + tb.length) (hd : dn tb id = t) : f_X6_bring (nI id) M = f_X6_bring_37 (nI id) (bI (decide (kind t = 20))) (nI (its1 20 t).length) M := by
  have hl2 := r0.2.1
  have hAt : AR t = true := by rw [← hd]; exact dn_AR r0.1 hid
  have a1 := (r0.2.2.2.2.2.1 id hid).1
  have a2 := (r0.2.2.2.2.2.1 id hid).2.1
  rw [hd] at a1 a2
  have hkl := AR_le hAt
  unfold f_X6_bring f_X6_bring_19
  rw [mrd_n (by omega) (by omega), Option.bind_some, a1]
  by_cases hk : kind t = 20
  · have e : its1 20 t = kids t := if_pos hk
    rw [if_pos (by rw [hk]), if_neg (by decide), mrd_n (by omega) (by omega), Option.bind_some, a2, decide_eq_true hk, e]
    rfl
  · have e : its1 20 t = [t] := if_neg hk
    rw [if_neg (fun q => hk ((neq (by omega) (by omega)).mp q)), if_pos rfl, decide_eq_false hk, e]
    rfl
/-- no room for another wish -/
theorem bring_full {M : Mem} {a : Abs} {cn cs : Nat} {ch : Nat → Nat} {tb : List T} {id : Nat} {t : T} (hC : RelC' M a cn cs ch tb) (hA : okA a) (hid : id < 16 + tb.length) (hd : dn tb id = t) (hw8 : ¬ a.1.2.2.length < 8) : f_X6_bring (nI id) M = some ((-3), M) := by
  have hC2 := hC
  obtain ⟨⟨c1, c2, c3, c4, c5, c6, c7, c8, c9⟩, r0, r1, r2, r3, r4, r5, r6, r7⟩ := hC2
  have h8 := hA.1.2.2.1
  rw [bring_head r0 hid hd]
  unfold f_X6_bring_37 f_X6_bring_60
  rw [c1, mlS_ok c4.1, Option.bind_some, r1.2.2.1, if_neg (fun q => hw8 ((nlt (by omega) (by omega)).mp q))]
theorem bring_ok {M : Mem} {a : Abs} {cn cs : Nat} {ch : Nat → Nat} {tb : List T} {id : Nat} {t : T} (hC : RelC' M a cn cs ch tb) (hA : okA a) (hid : id < 16 + tb.length) (hd : dn tb id = t) (hsz : size t < 1000000) (hw8 : a.1.2.2.length < 8) : ∃ M', (f_X6_bring (nI id) M = some ((-3), M') ∧ RelC M' a ∧ ¬ okPt t) ∨ (okPt t ∧ f_X6_bring (nI id) M = some (nI a.1.2.2.length, M') ∧ RelC M' (addS a.1 t, recd a.2.1 a.1, a.2.2)) := by
  have hC2 := hC
  obtain ⟨⟨c1, c2, c3, c4, c5, c6, c7, c8, c9⟩, r0, r1, r2, r3, r4, r5, r6, r7⟩ := hC2
  have gn := isSc_ge c4.1
  have gs := isSc_ge c5.1
  have hns := isSc_far c4.1 c5.1 c7
  have hl2 := r0.2.1
  have hAt : AR t = true := by rw [← hd]; exact dn_AR r0.1 hid
  have a1 := (r0.2.2.2.2.2.1 id hid).1
  have a2 := (r0.2.2.2.2.2.1 id hid).2.1
  rw [hd] at a1 a2
  have hkl := AR_le hAt
  have e0 := bring_head r0 hid hd
  rw [e0]
  unfold f_X6_bring_37 f_X6_bring_60
  have hlen : (its1 20 t).length < 1000000 := by
    have h1 := wdt_le 20 t
    rw [← its1_len] at h1
    omega
  rw [c1, mlS_ok c4.1, Option.bind_some, r1.2.2.1, if_pos ((nlt (by omega) (by omega)).mpr hw8)]
  by_cases h8 : 8 < (its1 20 t).length
  · rw [if_pos ((nlt (by omega) (by omega)).mpr h8)]
    exact ⟨M, Or.inl ⟨rfl, ⟨cn, cs, ch, tb, hC⟩, fun z => by have := z.1; omega⟩⟩
  · rw [if_neg (fun q => h8 ((nlt (by omega) (by omega)).mp q)), c2, mlS_ok c5.1, Option.bind_some, Option.bind_some]
    obtain ⟨M1, e1, s1, o1⟩ := scopy_ok hA.1 (cs := cn) (cd := cs) (by omega) r1
    rw [e1, Option.bind_some]
    dsimp only
    rw [o1 0 (by omega), c2, mlS_ok c5.1, Option.bind_some, mlW_ok hw8, Option.bind_some]
    obtain ⟨M2, f2, o2, g⟩ := bring_89 (wl := a.1.2.2.length) (cw := cs + 3 + 3 * a.1.2.2.length) (by omega) hid hd hsz (by omega) fuelN 0 M1 (Nat.zero_le _) (by unfold fuelN; omega) (r0.congr (fun c _ _ => o1 c (by omega))) (fun j _ h => by omega)
    have o12 : ∀ c, c = 0 ∨ (16 ≤ c ∧ c ≠ 18 ∧ (c < cs ∨ cs + 27 ≤ c)) → M2 c = M c := fun c hc => by rw [o2 c (by omega), o1 c (by omega)]
    rcases g with ⟨g1, g2⟩ | ⟨g1, g2, g3⟩
    · exact ⟨M2, Or.inl ⟨g1, ⟨cn, cs, ch, tb, hC.spare hA (fun c hc => o12 c (by omega)) (by rw [o12 22 (by omega)]) f2⟩, g2⟩⟩
    · rw [List.drop_zero] at g1
      have hok : okPt t := ⟨by omega, g1⟩
      have okl := its1_okP hAt hok
      rw [g3]
      unfold bfin f_X5_come
      generalize hcw : cs + 3 + 3 * a.1.2.2.length = cw at *
      rw [o12 0 (by omega), c1, mlS_ok c4.1, Option.bind_some, mpz_1, Option.bind_some, mpi_n, Option.bind_some]
      have hCP3 : ∀ p (h : p < (its1 20 t).length), CP (mwr (mwr M2 cw 0 (bI true)) cw 2 (nI (its1 20 t).length)) cw p (its1 20 t)[p] := fun p hp => ⟨by rw [mwr_off _ _ _ (by omega), mwr_off _ _ _ (by omega)]; exact (g2 p hp).1, (g2 p hp).2.congr (by rw [mwr_ne _ _ _ (by omega), mwr_ne _ _ _ (by omega)])⟩
      rw [verdictOf_ok okl (mwr_at _ _ _ _) hCP3, Option.bind_some]
      dsimp only
      rw [o12 cn (by omega), r1.2.1, mpi_n, Option.bind_some, mpi_n, Option.bind_some, mpi_n, Option.bind_some, mpi_n, Option.bind_some, Option.bind_some]
      dsimp only
      generalize hM3 : mwr (mwr (mwr (mwr (mwr (mwr M2 cw 0 (bI true)) cw 2 (nI (its1 20 t).length)) cw 1 (nI (wv (its1 20 t)))) cw 3 (-5)) cw 4 (nI 0)) cw 5 (nI a.1.2.1.length) = M3
      have far : ∀ c, c ≠ cw → M3 c = M2 c := fun c hc => by rw [← hM3, mwr_ne _ _ _ hc, mwr_ne _ _ _ hc, mwr_ne _ _ _ hc, mwr_ne _ _ _ hc, mwr_ne _ _ _ hc, mwr_ne _ _ _ hc]
      have rw3 : RCw M3 cw (newW a.1 t) := by
        refine ⟨?_, ?_, ?_, ?_, ?_, ?_, fun p hp => ⟨by rw [far _ (by omega)]; exact (g2 p hp).1, (g2 p hp).2.congr (far _ (by omega))⟩⟩
        · rw [← hM3, mwr_in _ (by omega), mwr_in _ (by omega), mwr_in _ (by omega), mwr_in _ (by omega), mwr_in _ (by omega), mwr_at]; rfl
        · rw [← hM3, mwr_in _ (by omega), mwr_in _ (by omega), mwr_in _ (by omega), mwr_at]; rfl
        · rw [← hM3, mwr_in _ (by omega), mwr_in _ (by omega), mwr_in _ (by omega), mwr_in _ (by omega), mwr_at]; rfl
        · rw [← hM3, mwr_in _ (by omega), mwr_in _ (by omega), mwr_at]; rfl
        · rw [← hM3, mwr_in _ (by omega), mwr_at]; rfl
        · rw [← hM3, mwr_at]; rfl
      have far0 : ∀ c, (c < cw ∨ cw + 3 ≤ c) → 16 ≤ c → c ≠ 18 → M3 c = M1 c := fun c p q r => by rw [far c (by omega), o2 c (by omega)]
      have z0 : M3 0 = M 0 := by rw [far 0 (by omega), o12 0 (by omega)]
      have zc : M3 cs 2 = nI a.1.2.2.length := by rw [far0 cs (by omega) (by omega) (by omega)]; exact s1.2.2.1
      rw [z0, c2, mlS_ok c5.1, Option.bind_some, zc, nI_add, mpi_n, Option.bind_some]
      have oka := addS_ok hA.1 hw8 hAt hok
      have h40 := hA.1.1
      have sF : RC (mwr M3 cs 2 (nI (a.1.2.2.length + 1))) cs (addS a.1 t) := by
        obtain ⟨b0, b1, b2, b3, b4⟩ := s1
        refine ⟨by rw [mwr_in _ (by omega), far0 cs (by omega) (by omega) (by omega)]; exact b0, by rw [mwr_in _ (by omega), far0 cs (by omega) (by omega) (by omega)]; exact b1, ?_, fun i hi => ?_, fun k hk => ?_⟩
        · rw [mwr_at]
          show nI (a.1.2.2.length + 1) = nI (a.1.2.2 ++ [newW a.1 t]).length
          rw [List.length_append]; rfl
        · rw [mwr_off _ _ _ (by omega), far0 (cs + 1) (by omega) (by omega) (by omega)]; exact b3 i hi
        · have hk2 : k < (a.1.2.2 ++ [newW a.1 t]).length := hk
          suffices fin : RCw (mwr M3 cs 2 (nI (a.1.2.2.length + 1))) (cs + 3 + 3 * k) ((a.1.2.2 ++ [newW a.1 t])[k]'hk2) from fin
          rw [List.length_append, List.length_singleton] at hk2
          by_cases z : k = a.1.2.2.length
          · subst z
            rw [List.getElem_concat_length (by rfl), hcw]
            exact rw3.congr (mwr_ne _ _ _ (by omega)) (mwr_ne _ _ _ (by omega)) (mwr_ne _ _ _ (by omega))
          · rw [List.getElem_append_left (by omega)]
            exact (b4 k (by omega)).congr (by rw [mwr_ne _ _ _ (by omega), far0 _ (by omega) (by omega) (by omega)]) (by rw [mwr_ne _ _ _ (by omega), far0 _ (by omega) (by omega) (by omega)]) (by rw [mwr_ne _ _ _ (by omega), far0 _ (by omega) (by omega) (by omega)])
      obtain ⟨M4, cs', ch', e4, R4, o4⟩ := act_ok hC hA (M' := mwr M3 cs 2 (nI (a.1.2.2.length + 1))) (fun c hc => by rw [mwr_ne _ _ _ (by omega), far c (by omega), o12 c (by omega)]) (by rw [mwr_ne _ _ _ (by omega), far 22 (by omega), o12 22 (by omega)]) (f2.congr (fun c _ _ => by rw [mwr_ne _ _ _ (by omega), far c (by omega)])) oka sF
      rw [e4, Option.bind_some]
      exact ⟨M4, Or.inr ⟨hok, rfl, ⟨cs, cs', ch', tb, R4⟩⟩⟩
theorem partMany_ok {M : Mem} {tb : List T} {id : Nat} {t : T} (h : MT M tb) (hid : id < 16 + tb.length) (hd : dn tb id = t) : f_X7_partMany (nI id) M = some (nI (its1 20 t).length, M) := by
  subst hd
  have hl := h.2.1
  have hkd := dn_kind h.1 hid
  have hk2 := AR_le (MT_AR h hid)
  unfold f_X7_partMany f_X7_partMany_25 f_X7_partMany_26
  by_cases q : id < 16
  · have e : its1 20 (dn tb id) = [dn tb id] := if_neg (by have := hkd.1 q; omega)
    rw [if_pos ((nlt (by omega) (by omega)).mpr q), e]
    rfl
  · obtain ⟨n1, n2⟩ := MT_node h (id := id) (by omega) hid
    rw [if_neg (fun z => q ((nlt (by omega) (by omega)).mp z)), mrd_n (by omega) (by omega), Option.bind_some, (h.2.2.2.2.2.1 id hid).1]
    by_cases hk : kind (dn tb id) = 20
    · have e : its1 20 (dn tb id) = kids (dn tb id) := if_pos hk
      obtain ⟨s, s1, s2, s3, s4⟩ := n2 (by omega)
      rw [if_pos (by rw [hk]), mrd_n (by omega) (by omega), Option.bind_some, s3, e]
    · have e : its1 20 (dn tb id) = [dn tb id] := if_neg hk
      rw [if_neg (fun z => by have := (neq (by omega) (by omega)).mp z; omega), e]
      rfl
theorem partForm_ok {M : Mem} {tb : List T} {id p : Nat} {t : T} (h : MT M tb) (hid : id < 16 + tb.length) (hd : dn tb id = t) (hp : p < (its1 20 t).length) : ∃ y, f_X7_partForm (nI id) (nI p) M = some (nI y, M) ∧ y < 16 + tb.length ∧ dn tb y = (its1 20 t)[p] := by
  subst hd
  have hl := h.2.1
  have hkd := dn_kind h.1 hid
  have hk2 := AR_le (MT_AR h hid)
  have h0 : kind (dn tb id) ≠ 20 → (dn tb id) = (its1 20 (dn tb id))[p] := fun hk => by
    have e : its1 20 (dn tb id) = [dn tb id] := if_neg hk
    have hp0 : p = 0 := by rw [e] at hp; simpa using hp
    subst hp0
    rw [List.getElem_of_eq e hp]; rfl
  unfold f_X7_partForm f_X7_partForm_32 f_X7_partForm_33
  by_cases q : id < 16
  · rw [if_pos ((nlt (by omega) (by omega)).mpr q)]
    exact ⟨id, rfl, hid, h0 (by have := hkd.1 q; omega)⟩
  · obtain ⟨n1, n2⟩ := MT_node h (id := id) (by omega) hid
    rw [if_neg (fun z => q ((nlt (by omega) (by omega)).mp z)), mrd_n (by omega) (by omega), Option.bind_some, (h.2.2.2.2.2.1 id hid).1]
    by_cases hk : kind (dn tb id) = 20
    · have e : its1 20 (dn tb id) = kids (dn tb id) := if_pos hk
      obtain ⟨s, s1, s2, s3, r, s4⟩ := n2 (by omega)
      have hpk : p < nkid (dn tb id) := by rw [e] at hp; exact hp
      obtain ⟨b1, b2, b3⟩ := s4 p hpk
      rw [if_pos (by rw [hk]), mrd_n (by omega) (by omega), Option.bind_some, s2, nI_add, mrd_n (by omega) (by omega), Option.bind_some, b2]
      exact ⟨r p, rfl, by omega, by rw [b3]; exact (List.getElem_of_eq e hp).symm⟩
    · rw [if_neg (fun z => by have := (neq (by omega) (by omega)).mp z; omega)]
      exact ⟨id, rfl, hid, h0 hk⟩
theorem mcm_70 {tb : List T} {id k : Nat} {t : T} (hk : k < 8) (hid : id < 16 + tb.length) (hd : dn tb id = t) (okl : okP (its1 20 t)) : ∀ (n p : Nat) (M : Mem), p ≤ (its1 20 t).length → (its1 20 t).length - p < n → MT M tb → M 219 (48 + 8 * k + 5) = nI (its1 20 t).length → M 219 2 = nI k → (∀ j (h : j < (its1 20 t).length), j < p → PR (M 219) (bw k j) (its1 20 t)[j]) → ∃ M', f_X7_comes_70 n (nI id) (nI k) (nI (48 + 8 * k)) (nI p) M = some (nI k, mwr (mwr M' 219 (48 + 8 * k + 1) (nI (wv (its1 20 t)))) 219 2 (nI (k + 1))) ∧ (∀ j (h : j < (its1 20 t).length), PR (M' 219) (bw k j) (its1 20 t)[j]) ∧ (∀ c, c ≠ 219 → c ≠ 227 → c ≠ 228 → M' c = M c) ∧ ∀ i, (i < bw k 0 ∨ bw k 0 + 484 * 8 ≤ i) → M' 219 i = M 219 i := by
  have h8 := okl.2.1
  have hb0 : bw k 0 = 112 + 484 * (8 * k) := by unfold bw; omega
  intro n
  induction n with
  | zero => intro p M _ h; omega
  | succ n ih =>
    intro p M h1 h2 hF h5 h2' hP
    rw [f_X7_comes_70, nI_add, mrd_n (by omega) (by omega), Option.bind_some, h5]
    by_cases hp : p < (its1 20 t).length
    · obtain ⟨y, e1, y1, y2⟩ := partForm_ok hF hid hd hp
      obtain ⟨M1, e2, f2, q2, o2⟩ := store_ok hF hk (show p < 8 by omega) y1 (by rw [y2]; exact (okl.2.2 _ (List.getElem_mem hp)).2)
      have hbp : bw k p = 112 + 484 * (8 * k + p) := rfl
      rw [if_pos ((nlt (by omega) (by omega)).mpr hp), e1, Option.bind_some]
      dsimp only
      rw [e2, Option.bind_some, nI_add]
      obtain ⟨M', e3, p3, o3, o4⟩ := ih (p + 1) M1 (by omega) (by omega) f2 (by rw [o2.2 _ (by omega)]; exact h5) (by rw [o2.2 _ (by omega)]; exact h2') (fun j hj hjp => by
        by_cases e2 : j = p
        · subst e2
          rw [← y2]; exact q2
        · refine (hP j hj (by omega)).congr (okl.2.2 _ (List.getElem_mem hj)).2 (fun i q1 q2 => o2.2 i ?_)
          have hbj : bw k j = 112 + 484 * (8 * k + j) := rfl
          omega)
      exact ⟨M', e3, p3, fun c c1 c2 c3 => by rw [o3 c c1 c2 c3, o2.1 c c1 c2 c3], fun i hi => by rw [o4 i hi, o2.2 i (by omega)]⟩
    · have : p = (its1 20 t).length := by omega
      subst this
      rw [if_neg (fun q => hp ((nlt (by omega) (by omega)).mp q)), verdictBy' hk okl h5 (fun j hj => hP j hj hj), Option.bind_some]
      dsimp only
      rw [nI_add, mst_n (by omega) (by omega), Option.bind_some, mrd_n (by omega) (by omega), Option.bind_some, mwr_in _ (by omega), h2', nI_add, mst_n (by omega) (by omega), Option.bind_some]
      exact ⟨M, rfl, fun j hj => hP j hj hj, fun _ _ _ _ => rfl, fun _ _ => rfl⟩
theorem comes_ok {M : Mem} {tb : List T} {id : Nat} {s : Sta} {t : T} (hs : okS s) (hl8 : s.2.2.length < 8) (hF : MT M tb) (hid : id < 16 + tb.length) (hd : dn tb id = t) (hok : okPt t) (hR : RM (M 219) s) : ∃ M', f_X7_comes (nI id) M = some (nI s.2.2.length, M') ∧ RM (M' 219) (addS s t) ∧ ∀ c, c ≠ 219 → c ≠ 227 → c ≠ 228 → M' c = M c := by
  have hAt : AR t = true := by rw [← hd]; exact MT_AR hF hid
  have okl := its1_okP hAt hok
  have h40 := hs.1
  obtain ⟨b0, b1, b2, b3, b4⟩ := hR
  obtain ⟨k, hk⟩ : ∃ k, s.2.2.length = k := ⟨_, rfl⟩
  rw [hk] at b2 hl8 ⊢
  have hb0 : bw k 0 = 112 + 484 * (8 * k) := by unfold bw; omega
  unfold f_X7_comes
  rw [mrd_n (by omega) (by omega), Option.bind_some, b2, w_ok, Option.bind_some]
  dsimp only
  rw [nI_add, mst_n (by omega) (by omega), Option.bind_some, nI_add, mst_n (by omega) (by omega), Option.bind_some, nI_add, mst_n (by omega) (by omega), Option.bind_some, mrd_n (by omega) (by omega), Option.bind_some, nI_add, mst_n (by omega) (by omega), Option.bind_some]
  rw [mwr_in _ (show (0 : Nat) ≠ 48 + 8 * k + 3 by omega), mwr_in _ (show (0 : Nat) ≠ 48 + 8 * k + 2 by omega), mwr_in _ (show (0 : Nat) ≠ 48 + 8 * k + 0 by omega), b0]
  have hpm : ∀ N : Mem, (∀ c, c ≠ 219 → N c = M c) → f_X7_partMany (nI id) N = some (nI (its1 20 t).length, N) := fun N hN => partMany_ok (hF.congr (fun c _ _ => hN c (by omega)) (hN 229 (by omega)) (by rw [hN 218 (by omega)]) (by rw [hN 218 (by omega)])) hid hd
  rw [hpm _ (fun c hc => by rw [mwr_ne _ _ _ hc, mwr_ne _ _ _ hc, mwr_ne _ _ _ hc, mwr_ne _ _ _ hc]), Option.bind_some]
  dsimp only
  rw [nI_add, mst_n (by omega) (by omega), Option.bind_some]
  generalize hM1 : mwr (mwr (mwr (mwr (mwr M 219 (48 + 8 * k + 0) (nI 1)) 219 (48 + 8 * k + 2) (-5)) 219 (48 + 8 * k + 3) (nI 0)) 219 (48 + 8 * k + 4) (nI s.2.1.length)) 219 (48 + 8 * k + 5) (nI (its1 20 t).length) = M1
  have far : ∀ c, c ≠ 219 → M1 c = M c := fun c hc => by rw [← hM1, mwr_ne _ _ _ hc, mwr_ne _ _ _ hc, mwr_ne _ _ _ hc, mwr_ne _ _ _ hc, mwr_ne _ _ _ hc]
  have fin : ∀ i, (i < 48 + 8 * k ∨ 48 + 8 * k + 6 ≤ i) → M1 219 i = M 219 i := fun i hi => by rw [← hM1, mwr_in _ (by omega), mwr_in _ (by omega), mwr_in _ (by omega), mwr_in _ (by omega), mwr_in _ (by omega)]
  obtain ⟨M2, e2, p2, o2, o3⟩ := mcm_70 (k := k) (by omega) hid hd okl fuelN 0 M1 (Nat.zero_le _) (by have := okl.2.1; unfold fuelN; omega) (hF.congr (fun c _ _ => far c (by omega)) (far 229 (by omega)) (by rw [far 218 (by omega)]) (by rw [far 218 (by omega)])) (by rw [← hM1, mwr_at]) (by rw [fin 2 (by omega)]; exact b2) (fun j _ h => by omega)
  rw [e2]
  refine ⟨_, rfl, ?_, fun c c1 c2 c3 => by rw [mwr_ne _ _ _ c1, mwr_ne _ _ _ c1, o2 c c1 c2 c3, far c c1]⟩
  generalize hM3 : mwr (mwr M2 219 (48 + 8 * k + 1) (nI (wv (its1 20 t)))) 219 2 (nI (k + 1)) = M3
  have fin3 : ∀ i, i ≠ 48 + 8 * k + 1 → i ≠ 2 → M3 219 i = M2 219 i := fun i p q => by rw [← hM3, mwr_in _ q, mwr_in _ p]
  have old : ∀ i, i ≠ 2 → (i < 48 + 8 * k ∨ 48 + 8 * k + 8 ≤ i) → (i < bw k 0 ∨ bw k 0 + 484 * 8 ≤ i) → M3 219 i = M 219 i := fun i p q r => by rw [fin3 i (by omega) p, o3 i r, fin i (by omega)]
  have row : ∀ i, 48 + 8 * k ≤ i → i < 48 + 8 * k + 8 → i ≠ 48 + 8 * k + 1 → M3 219 i = M1 219 i := fun i p q r => by rw [fin3 i r (by omega), o3 i (by omega)]
  have w3 : RMw (M3 219) k (newW s t) := by
    refine ⟨?_, ?_, ?_, ?_, ?_, ?_, fun p hp => ?_⟩
    · rw [row _ (by omega) (by omega) (by omega), ← hM1, mwr_in _ (by omega), mwr_in _ (by omega), mwr_in _ (by omega), mwr_in _ (by omega)]
      exact mwr_at M 219 (48 + 8 * k + 0) (nI 1)
    · rw [← hM3, mwr_in _ (by omega), mwr_at]; rfl
    · rw [row _ (by omega) (by omega) (by omega), ← hM1, mwr_in _ (by omega), mwr_in _ (by omega), mwr_in _ (by omega), mwr_at]; rfl
    · rw [row _ (by omega) (by omega) (by omega), ← hM1, mwr_in _ (by omega), mwr_in _ (by omega), mwr_at]; rfl
    · rw [row _ (by omega) (by omega) (by omega), ← hM1, mwr_in _ (by omega), mwr_at]; rfl
    · rw [row _ (by omega) (by omega) (by omega), ← hM1, mwr_at]; rfl
    · have hbp : bw k p = 112 + 484 * (8 * k + p) := rfl
      exact (p2 p hp).congr (okl.2.2 _ (List.getElem_mem hp)).2 (fun i q1 q2 => fin3 i (by omega) (by omega))
  refine ⟨by rw [old 0 (by omega) (by omega) (by omega)]; exact b0, by rw [old 1 (by omega) (by omega) (by omega)]; exact b1, ?_, fun i hi => by
    have hi' : i < s.2.1.length := hi
    rw [old (4 + i) (by omega) (by omega) (by omega)]; exact b3 i hi', fun j hj => ?_⟩
  · rw [← hM3, mwr_at]
    show nI (k + 1) = nI (s.2.2 ++ [newW s t]).length
    rw [List.length_append, hk]; rfl
  · have hj2 : j < (s.2.2 ++ [newW s t]).length := hj
    suffices fin4 : RMw (M3 219) j ((s.2.2 ++ [newW s t])[j]'hj2) from fin4
    rw [List.length_append, List.length_singleton] at hj2
    by_cases z : j = s.2.2.length
    · subst z
      rw [List.getElem_concat_length (by rfl), hk]
      exact w3
    · have hjl : j < s.2.2.length := by omega
      rw [List.getElem_append_left hjl]
      have hbj : bw j 0 = 112 + 484 * (8 * j) := by unfold bw; omega
      exact (b4 j (by omega)).congr (by omega) (hs.2.2.2 _ (List.getElem_mem hjl)) (fun i hi => old _ (by omega) (by omega) (by omega)) (fun i q1 q2 => old i (by omega) (by omega) (by omega))
