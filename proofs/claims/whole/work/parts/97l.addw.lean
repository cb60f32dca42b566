/-! addWish(): both sides -/
theorem RelM.keep3 {M M' : Mem} {a : Abs} (h : RelM M a) (hm : ∀ c, c = 219 ∨ c = 220 ∨ c = 221 ∨ c = 234 → M' c = M c) (h8 : ∀ i, 23 ≤ i → M' 218 i = M 218 i) : RelM M' a := by
  obtain ⟨a1, a2, a3, a4, a5, a6, a7⟩ := h
  refine ⟨by rw [hm 219 (by omega)]; exact a1, fun i hi => by rw [hm 220 (by omega)]; exact a2 i hi, fun s hs => by rw [hm 221 (by omega)]; exact a3 s hs, by rw [h8 24 (by omega)]; exact a4, by rw [h8 25 (by omega)]; exact a5, by rw [h8 23 (by omega)]; exact a6, fun i hi => by rw [hm 234 (by omega)]; exact a7 i hi⟩
theorem rc_ok {M : Mem} {a : Abs} {tb : List T} {id : Nat} {t : T} (hA : okA a) (hM : RelM M a) (hl8 : a.1.2.2.length < 8) (hF : MT M tb) (hid : id < 16 + tb.length) (hd : dn tb id = t) (hok : okPt t) : ∃ M', ((f_X7_record M).bind fun q10 => (f_X7_comes (nI id) q10.2).bind fun q11 => some (q11.1, q11.2)) = some (nI a.1.2.2.length, M') ∧ RelM M' (addS a.1 t, recd a.2.1 a.1, a.2.2) := by
  have hM2 := hM
  obtain ⟨n1, n2, n3, n4, n5, n6, n7⟩ := hM2
  obtain ⟨M1, e1, h1, h2, h3, h4⟩ := record_ok hA.1 hA.2.2.1 hA.2.1 n4 n1 n2
  obtain ⟨M2, e2, r2, o2⟩ := comes_ok hA.1 hl8 (hF.congr (fun c _ _ => h3 c (by omega) (by omega)) (h3 229 (by omega) (by omega)) (h4 11 (by omega)) (h4 12 (by omega))) hid hd hok (by rw [h3 219 (by omega) (by omega)]; exact n1)
  rw [e1, Option.bind_some]
  dsimp only
  rw [e2, Option.bind_some]
  exact ⟨M2, rfl, RelM_act hA hM ⟨h1, h2, h3, h4⟩ (fun c hc => o2 c (by omega) (by omega) (by omega)) (fun i _ => by rw [o2 218 (by omega) (by omega) (by omega)]) r2⟩
theorem flt_le : ∀ (cs : List Nat) (due : Bool) (d i k : Nat), flt cs due d i = some k → k ≤ i + cs.length := by
  intro cs
  induction cs with
  | nil =>
    intro due d i k h
    unfold flt at h
    split at h
    · have := Option.some.inj h
      simp only [List.length_nil]; omega
    · cases h
  | cons c cs ih =>
    intro due d i k h
    rw [List.length_cons]
    have fin : ∀ (b : Bool) (e : Nat), flt cs b e (i + 1) = some k → k ≤ i + (cs.length + 1) := fun b e q => by
      have := ih b e (i + 1) k q
      omega
    have fin2 : some i = some k → k ≤ i + (cs.length + 1) := fun q => by
      have := Option.some.inj q
      omega
    cases due with
    | true =>
      unfold flt at h
      split at h
      · exact fin _ _ h
      · split at h
        · exact fin _ _ h
        · split at h
          · exact fin _ _ h
          · exact fin2 h
    | false =>
      unfold flt at h
      split at h
      · exact fin _ _ h
      · split at h
        · exact fin _ _ h
        · exact fin2 h
theorem s_addWish : stp Rel f_X6_addWish f_X7_addWish := by
  refine stp_of (fun MC MM a hA hC hM => ?_)
  have hC0 := hC
  obtain ⟨cn, cs, ch, tb, hC⟩ := hC
  obtain ⟨⟨c1, c2, c3, c4, c5, c6, c7, c8, c9⟩, r0, r1, r2, r3, r4, r5, r6, r7⟩ := id hC
  obtain ⟨m1, m2, m3, m4, m5, m6, m7⟩ := id hM
  have htx : ∀ i (h : i < a.2.2.2.length), a.2.2.2[i] < 65536 ∧ MM 234 i = nI a.2.2.2[i] := fun i hi => ⟨(r7 i hi).1, m7 i hi⟩
  have h60 := hA.2.2.2.2.1
  have h8 := hA.1.2.2.1
  unfold f_X6_addWish f_X7_addWish f_X7_addWish_53
  rw [findFault_ok h60 r6 r7, Option.bind_some, faultOf_ok h60 m6 htx, Option.bind_some]
  dsimp only
  cases hf : flt a.2.2.2 true 0 0 with
  | some k =>
    by_cases q : fltI (some k) < nI 0
    · exfalso
      revert q
      show nI k < nI 0 → False
      have hk60 := flt_le _ _ _ _ _ hf
      exact neg_n (by omega)
    · rw [if_neg q, if_neg q]
      exact same_of hA hC0 hM _
  | none =>
    have q : fltI none < nI 0 := by decide
    rw [if_pos q, if_pos q, c1, mlS_ok c4.1, Option.bind_some, mrd_n (by omega) (by omega), Option.bind_some]
    simp only [r1.1, m1.2.1, bI_0', bI_1]
    cases hend : a.1.1 with
    | true =>
      rw [if_neg (by decide), if_pos rfl]
      exact same_of hA hC0 hM _
    | false =>
      rw [if_pos rfl, if_neg (show ¬ (false = true) by decide)]
      obtain ⟨idm, M1, tm, e1, f1, i1, d1, o1⟩ := mread_ok h60 m6 htx hf
      have hM1 : RelM M1 a := hM.keep3 (fun c hc => o1.1 c (by omega)) (fun i hi => o1.2 i (by omega))
      rw [e1, Option.bind_some]
      dsimp only
      rw [mrd_n (by omega) (by omega), Option.bind_some, hM1.1.2.2.1]
      simp (disch := omega) only [nlt, neq]
      obtain ⟨N1, g1, g2, g3⟩ := release_ok r0 (mark := 16) (Nat.le_refl _) (by omega)
      rw [show 16 - 16 = 0 by omega, List.take_zero] at g2
      rw [g1, Option.bind_some]
      dsimp only
      obtain ⟨idc, N2, tc, k1, k2, k3, k4, k5, k6⟩ := read_ok g2 h60 (by rw [g3 22 (by omega) (by omega)]; exact r6) (fun i hi => by rw [g3 23 (by omega) (by omega)]; exact r7 i hi)
      rw [k1, Option.bind_some]
      dsimp only
      have hC2 : RelC' N2 a cn cs ch tc := hC.keep hA (fun c hc => by rw [k6.1 c (by omega), g3 c (by omega) (by omega)]) (by rw [k6.2, g3 22 (by omega) (by omega)]) k2
      by_cases hl : a.1.2.2.length < 8
      · rw [if_neg (by omega), partMany_ok f1 i1 d1, Option.bind_some]
        dsimp only
        have hlen : (its1 20 (rdT a.2.2.2)).length < 1000000 := by
          have h1 := wdt_le 20 (rdT a.2.2.2)
          rw [← its1_len] at h1
          omega
        simp (disch := omega) only [nlt]
        obtain ⟨N3, hb⟩ := bring_ok hC2 hA k3 k4 (by omega) hl
        rcases hb with ⟨b1, b2, b3⟩ | ⟨b1, b2, b3⟩
        · have h9 : 8 < (its1 20 (rdT a.2.2.2)).length := by
            rcases Nat.lt_or_ge 8 (its1 20 (rdT a.2.2.2)).length with z | z
            · exact z
            · exact absurd ⟨z, fun x hx => by have := its1_size hx; omega⟩ b3
          rw [b1, if_pos h9, Option.bind_some]
          exact ⟨_, _, _, a, rfl, rfl, hA, b2, hM1⟩
        · have h9 := b1.1
          rw [b2, if_neg (by omega), Option.bind_some]
          dsimp only
          obtain ⟨M2, e2, r2'⟩ := rc_ok hA hM1 hl f1 i1 d1 b1
          rw [e2]
          exact ⟨_, _, _, _, rfl, rfl, okA_act hA (addS_ok hA.1 hl (by rw [← d1]; exact MT_AR f1 i1) b1), b3, r2'⟩
      · rw [if_pos (by omega), bring_full hC2 hA k3 k4 hl, Option.bind_some]
        exact ⟨_, _, _, a, rfl, rfl, hA, ⟨cn, cs, ch, tc, hC2⟩, hM1⟩
