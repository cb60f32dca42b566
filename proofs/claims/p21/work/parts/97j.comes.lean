def okPt (t : T) : Prop := (its1 20 t).length ≤ 8 ∧ ∀ x ∈ its1 20 t, size x ≤ 120
theorem its1_size {t x : T} (h : x ∈ its1 20 t) : size x ≤ size t := by
  unfold its1 at h
  split at h
  · exact Nat.le_of_lt (size_kid h)
  · rw [List.mem_singleton.mp h]; exact Nat.le_refl _
theorem its1_pos {t : T} (hA : AR t = true) : 1 ≤ (its1 20 t).length := by
  unfold its1
  split
  next h =>
    have := AR_two hA (by omega)
    show 1 ≤ nkid t
    omega
  next h => exact Nat.le_refl _
theorem its1_AR {t x : T} (hA : AR t = true) (h : x ∈ its1 20 t) : AR x = true := by
  unfold its1 at h
  split at h
  · exact AR_kid hA h
  · rw [List.mem_singleton.mp h]; exact hA
theorem its1_okP {t : T} (hA : AR t = true) (h : okPt t) : okP (its1 20 t) := ⟨its1_pos hA, h.1, fun x hx => ⟨its1_AR hA hx, h.2 x hx⟩⟩
def newW (s : Sta) (t : T) : Wsh := (true, wv (its1 20 t), -5, nI 0, s.2.1.length, its1 20 t)
def addS (s : Sta) (t : T) : Sta := (s.1, s.2.1, s.2.2 ++ [newW s t])
theorem newW_ok {s : Sta} {t : T} (hs : okS s) (hA : AR t = true) (h : okPt t) : okW (newW s t) := ⟨wv_le _, hs.1, its1_okP hA h⟩
theorem addS_ok {s : Sta} {t : T} (hs : okS s) (hl : s.2.2.length < 8) (hA : AR t = true) (h : okPt t) : okS (addS s t) := by
  refine ⟨hs.1, hs.2.1, by show (s.2.2 ++ [newW s t]).length ≤ 8; rw [List.length_append]; simp; omega, fun w hw => ?_⟩
  rcases List.mem_append.mp hw with hw | hw
  · exact hs.2.2.2 w hw
  · rw [List.mem_singleton.mp hw]; exact newW_ok hs hA h
theorem RelC'.spare {M M' : Mem} {a : Abs} {cn cs : Nat} {ch : Nat → Nat} {tb tb' : List T} (h : RelC' M a cn cs ch tb) (hA : okA a) (hm : ∀ c, c = 0 ∨ c = 23 ∨ (28 ≤ c ∧ (c < cs ∨ cs + 27 ≤ c)) → M' c = M c) (h5 : M' 22 5 = M 22 5) (hF : FT M' tb') : RelC' M' a cn cs ch tb' := by
  obtain ⟨⟨c1, c2, c3, c4, c5, c6, c7, c8, c9⟩, r0, r1, r2, r3, r4, r5, r6, r7⟩ := h
  have gn := isSc_ge c4.1
  have hns := isSc_far c4.1 c5.1 c7
  have h4 := hA.2.1
  have gs := isSc_ge c5.1
  refine ⟨⟨by rw [hm 0 (by omega)]; exact c1, by rw [hm 0 (by omega)]; exact c2, fun i hi => by rw [hm 28 (by omega)]; exact c3 i hi, c4, c5, c6, c7, c8, c9⟩, hF, r1.congr hA.1 (fun d p q => hm d (by omega)), fun i hi => ?_, fun s hs => ?_, by rw [hm 0 (by omega)]; exact r4, by rw [hm 0 (by omega)]; exact r5, by rw [h5]; exact r6, fun i hi => by rw [hm 23 (by omega)]; exact r7 i hi⟩
  · have hfar := isSc_far (c6 i (by omega)).1 c5.1 (c8 i (by omega)).2
    have hge := isSc_ge (c6 i (by omega)).1
    exact (r2 i hi).congr (hA.2.2.1 _ (List.getElem_mem hi)) (fun d p q => hm d (by omega))
  · have hfar := isSc_far (Or.inl rfl : isSc 29) c5.1 (fun z => c5.2 z.symm)
    exact (r3 s hs).congr (hA.2.2.2.1 s hs) (fun d p q => hm d (by omega))
theorem c_part {M : Mem} {tb : List T} {id p : Nat} {t : T} (hF : FT M tb) (hid : id < 16 + tb.length) (hd : dn tb id = t) (hp : p < (its1 20 t).length) : ∃ k, k < 16 + tb.length ∧ dn tb k = (its1 20 t)[p] ∧ (kind t = 20 → f_X1_kid (nI id) (nI p) M = some (nI k, M)) ∧ (kind t ≠ 20 → k = id) := by
  subst hd
  by_cases hk : kind (dn tb id) = 20
  · have e : its1 20 (dn tb id) = kids (dn tb id) := if_pos hk
    have h16 : 16 ≤ id := by
      rcases Nat.lt_or_ge id 16 with q | q
      · have := (dn_kind hF.1 hid).1 q; omega
      · exact q
    obtain ⟨k, a, b, c⟩ := kid_ok hF h16 hid (j := p) (by rw [e] at hp; exact hp)
    exact ⟨k, by omega, by rw [c]; exact (List.getElem_of_eq e hp).symm, fun _ => b, fun q => absurd hk q⟩
  · have e : its1 20 (dn tb id) = [dn tb id] := if_neg hk
    have hp0 : p = 0 := by rw [e] at hp; simpa using hp
    subst hp0
    exact ⟨id, hid, by rw [List.getElem_of_eq e hp]; rfl, fun q => absurd q hk, fun _ => rfl⟩
def bfin (count wl cw : Nat) (M : Mem) : Option Rv := (mlS (M 0 8)).bind fun c2 => (f_X5_come cw (nI count) (M c2 1) M).bind fun q3 => (mlS (q3.2 0 9)).bind fun c4 => (mpi q3.2 c4 2 ((q3.2 c4 2) + (nI 1))).bind fun M5 => (f_X6_recordAndGoOn M5).bind fun q6 => some (nI wl, q6.2)
theorem bring_89 {tb : List T} {id wl cw : Nat} {t : T} (hx : 20 ≤ cw) (hid : id < 16 + tb.length) (hd : dn tb id = t) (hsz : size t < 1000000) (h8 : (its1 20 t).length ≤ 8) : ∀ (n p : Nat) (M : Mem), p ≤ (its1 20 t).length → (its1 20 t).length - p < n → FT M tb → (∀ j (h : j < (its1 20 t).length), j < p → CP M cw j (its1 20 t)[j] ∧ size (its1 20 t)[j] ≤ 120) → ∃ M', FT M' tb ∧ FE M M' cw ∧ ((f_X6_bring_89 n (nI id) (bI (decide (kind t = 20))) (nI (its1 20 t).length) (nI wl) cw (nI p) M = some ((-3), M') ∧ ¬ okPt t) ∨ ((∀ x ∈ (its1 20 t).drop p, size x ≤ 120) ∧ (∀ j (h : j < (its1 20 t).length), CP M' cw j (its1 20 t)[j]) ∧ f_X6_bring_89 n (nI id) (bI (decide (kind t = 20))) (nI (its1 20 t).length) (nI wl) cw (nI p) M = bfin (its1 20 t).length wl cw M')) := by
  intro n
  induction n with
  | zero => intro p M _ h; omega
  | succ n ih =>
    intro p M h1 h2 hF hCP
    rw [f_X6_bring_89]
    unfold f_X6_bring_113
    by_cases hp : p < (its1 20 t).length
    · obtain ⟨k, k1, k2, k3, k4⟩ := c_part hF hid hd hp
      have hl2 := hF.2.1
      have aa := (hF.2.2.2.2.2.1 k k1).2.2.1
      have hmem := List.getElem_mem hp
      have hps := its1_size hmem
      rw [k2] at aa
      have body : ∃ M', FT M' tb ∧ FE M M' cw ∧ (((mrd M 5 2048 (nI k)).bind fun v1 => if (nI 120) < v1 then (some ((-3), M)) else (f_X3_save (nI k) cw (nI p) M).bind fun q3 => f_X6_bring_89 n (nI id) (bI (decide (kind t = 20))) (nI (its1 20 t).length) (nI wl) cw (nI p + nI 1) q3.2) = some ((-3), M') ∧ ¬ okPt t ∨ ((∀ x ∈ (its1 20 t).drop p, size x ≤ 120) ∧ (∀ j (h : j < (its1 20 t).length), CP M' cw j (its1 20 t)[j]) ∧ ((mrd M 5 2048 (nI k)).bind fun v1 => if (nI 120) < v1 then (some ((-3), M)) else (f_X3_save (nI k) cw (nI p) M).bind fun q3 => f_X6_bring_89 n (nI id) (bI (decide (kind t = 20))) (nI (its1 20 t).length) (nI wl) cw (nI p + nI 1) q3.2) = bfin (its1 20 t).length wl cw M')) := by
        rw [mrd_n (by omega) (by omega), Option.bind_some, aa]
        by_cases q : 120 < size (its1 20 t)[p]
        · rw [if_pos ((nlt (by omega) (by omega)).mpr q)]
          refine ⟨M, hF, fun _ _ => rfl, Or.inl ⟨rfl, fun z => ?_⟩⟩
          have := z.2 _ hmem
          omega
        · rw [if_neg (fun z => q ((nlt (by omega) (by omega)).mp z))]
          obtain ⟨M1, e1, f1, q1, o1, o2, o3⟩ := save_ok hx (show p < 8 by omega) hF k1 k2 (by omega)
          rw [e1, Option.bind_some, nI_add]
          obtain ⟨M', f2, o4, g⟩ := ih (p + 1) M1 (by omega) (by omega) f1 (fun j hj hjp => by
            by_cases e2 : j = p
            · subst e2; exact ⟨q1, by omega⟩
            · have hj2 := hCP j hj (by omega)
              have s2 := codes_len (its1 20 t)[j]
              have s1 := hj2.2
              exact ⟨⟨by rw [o2 j e2]; exact hj2.1.1, fun i hi => by rw [o3 _ (by omega)]; exact hj2.1.2 i hi⟩, s1⟩)
          refine ⟨M', f2, fun c hc => by rw [o4 c hc, o1 c (by omega) (by omega) (by omega)], ?_⟩
          rcases g with g | ⟨g1, g2, g3⟩
          · exact Or.inl g
          · refine Or.inr ⟨fun x hx => ?_, g2, g3⟩
            rw [List.drop_eq_getElem_cons hp] at hx
            rcases List.mem_cons.mp hx with rfl | hx
            · omega
            · exact g1 x hx
      rw [if_pos ((nlt (by omega) (by omega)).mpr hp)]
      by_cases hk : kind t = 20
      · rw [decide_eq_true hk] at body ⊢
        rw [if_neg (show ¬ bI true = nI 0 by decide), k3 hk, Option.bind_some]
        exact body
      · rw [decide_eq_false hk] at body ⊢
        rw [if_pos bI_f, ← k4 hk]
        rw [← k4 hk] at body
        exact body
    · have : p = (its1 20 t).length := by omega
      subst this
      rw [if_neg (fun q => hp ((nlt (by omega) (by omega)).mp q))]
      exact ⟨M, hF, fun _ _ => rfl, Or.inr ⟨(fun x hx => by rw [List.drop_length] at hx; cases hx), fun j hj => (hCP j hj hj).1, rfl⟩⟩
