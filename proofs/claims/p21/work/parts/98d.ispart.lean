/-! isPart(): a part's text -/
theorem Ans.bind {o : Option Rv} {F : Rv → Option Rv} {v w : Int32} {a b : Abs} (h : Ans o v a) (k : ∀ M', RelC M' a → Ans (F (v, M')) w b) : Ans (o.bind F) w b := by
  obtain ⟨M', e, h2⟩ := h
  rw [e, Option.bind_some]
  exact k M' h2
theorem Ans.zt {M : Mem} {a : Abs} (h : RelC M a) : Ans (mrz (nI 1) M) (nI 1) a := ⟨M, mrz_1 M, h⟩
theorem ip_93 {K : Int32 → Int32 → Int32 → Int32 → Int32 → Int32 → Int32 → Mem → Option Rv} {x1 x2 s0 x4 : Int32} {len sg i c d : Nat} {M : Mem} (hd : x4 + s0 = nI d) (hdl : d < 100000) (hl : len < 100000) (hi : i < len) (hc : 38 ≤ c ∧ c ≤ 124) (hk : 1 ≤ d ∨ i + 1 = len ∨ c = 88 ∨ c = 78 ∨ c = 45) : f_L_isPart_93 K x1 x2 (nI len) (nI sg) (nI i) (nI c) s0 x4 M = K x1 x2 (nI len) (nI d) (nI (sg ||| sgc c)) (nI 1) (nI (i + 1)) M := by
  have fin : ∀ g, f_L_isPart_123 K x1 x2 (nI len) (nI d) (nI i) (nI c) (nI g) (nI sg) M = K x1 x2 (nI len) (nI d) (nI (sg ||| g)) (nI 1) (nI (i + 1)) M := by
    intro g
    unfold f_L_isPart_123 f_L_isPart_170 f_L_isPart_174 f_L_isPart_175
    rw [if_pos ((nlt (by omega) (by omega)).mpr (by omega)), if_neg (neg_n (show d < 2147483648 by omega)), nI_or, nI_add, nsub (by omega)]
    by_cases h1 : 0 < d
    · rw [if_pos ((nlt (by omega) (by omega)).mpr h1)]
    · rw [if_neg (fun q => h1 ((nlt (by omega) (by omega)).mp q))]
      simp (disch := omega) only [neq]
      by_cases h2 : i = len - 1
      · rw [if_pos h2]
      rw [if_neg h2]
      by_cases h3 : c = 88
      · rw [if_pos h3]
      rw [if_neg h3]
      by_cases h4 : c = 78
      · rw [if_pos h4]
      rw [if_neg h4, if_pos (show c = 45 by omega)]
  unfold f_L_isPart_93 f_L_isPart_122
  rw [hd]
  simp (disch := omega) only [nlt]
  by_cases h1 : c < 97
  · have e : sgc c = 0 := if_neg (by omega)
    rw [if_pos h1, e]
    exact fin 0
  · rw [if_neg h1]
    by_cases h2 : 102 < c
    · have e : sgc c = 0 := if_neg (by omega)
      rw [if_pos h2, e]
      exact fin 0
    · have e : sgc c = 2 ^ (c - 97) := if_pos (by omega)
      rw [if_neg h2, nsub (by omega), shl1' (by omega), e]
      exact fin _
theorem ip_47 {a : Abs} {k p : Nat} {w : Wsh} {t : T} (hA : okA a) (ht : tw a.1 k = some w) (hp : p < (wP w).length) (hpt : (wP w)[p] = t) : ∀ (n i d sg : Nat) (M : Mem), i ≤ (txt t).length → (txt t).length - i < n → d ≤ i → RelC M a → okL true d ((txt t).drop i) = true → ∀ (v : Int32) (b : Abs), (∀ M', RelC M' a → Ans (f_L_isPart_183 (nI k) (nI p) (nI (txt t).length) (nI (depL d ((txt t).drop i))) (nI (sg ||| sgL ((txt t).drop i))) (nI 1) M') v b) → Ans (f_L_isPart_47 n (nI k) (nI p) (nI (txt t).length) (nI d) (nI sg) (nI 1) (nI i) M) v b := by
  have hw := tw_ok hA.1 ht
  obtain ⟨t1, t2⟩ := hw.2.2.2.2 (wP w)[p] (List.getElem_mem hp)
  rw [hpt] at t1 t2
  have hwl := txt_len _ t1
  have hwle := wid_le _ t1
  have hlen : (txt t).length < 400 := by omega
  intro n
  induction n with
  | zero => intro i d sg M _ h; omega
  | succ n ih =>
    intro i d sg M h1 h2 h3 hM hok v b fin
    rw [f_L_isPart_47]
    by_cases hi : i < (txt t).length
    · rw [if_pos ((nlt (by omega) (by omega)).mpr hi), if_neg (show ¬ nI 1 = nI 0 by decide)]
      refine Ans.bind (c_letter hA hM ht hp (i := i) (by omega)) (fun M1 hM1 => ?_)
      dsimp only
      have hl : ltr (wP w)[p] i = nI (txt t)[i] := by rw [hpt]; exact dif_pos hi
      rw [hl]
      have hdr : (txt t).drop i = (txt t)[i] :: (txt t).drop (i + 1) := List.drop_eq_getElem_cons hi
      have hrng := txt_rng t t1 _ (List.getElem_mem hi)
      have hlast : ((txt t).drop (i + 1)).isEmpty = true → i + 1 = (txt t).length := by
        intro q
        have := List.isEmpty_iff.mp q
        have := congrArg List.length this
        rw [List.length_drop, List.length_nil] at this
        omega
      generalize hc : (txt t)[i] = c at *
      rw [hdr] at hok fin
      have e : sg ||| sgL (c :: (txt t).drop (i + 1)) = (sg ||| sgc c) ||| sgL ((txt t).drop (i + 1)) := by
        show sg ||| (sgc c ||| sgL _) = _
        rw [Nat.or_assoc]
      rw [e] at fin
      simp (disch := omega) only [neq]
      by_cases c40 : c = 40
      · subst c40
        rw [okL, if_pos rfl] at hok
        rw [depL, if_pos rfl] at fin
        rw [if_pos rfl, ip_93 (d := d + 1) (nI_add d 1) (by omega) (by omega) hi hrng (Or.inl (by omega))]
        exact ih (i + 1) (d + 1) _ M1 (by omega) (by omega) (by omega) hM1 hok v b fin
      · rw [if_neg c40]
        by_cases c41 : c = 41
        · subst c41
          rw [okL, if_neg (by decide), if_pos rfl] at hok
          rw [depL, if_neg (by decide), if_pos rfl] at fin
          simp only [Bool.and_eq_true, Bool.or_eq_true, decide_eq_true_eq, Bool.true_and] at hok
          obtain ⟨⟨o1, o2⟩, o3⟩ := hok
          have ed : nI d + (-1) = nI (d - 1) := by
            have : (-1 : Int32) = -(nI 1) := rfl
            rw [this, ← Int32.sub_eq_add_neg, nsub o1]
          rw [if_pos rfl, ip_93 (d := d - 1) ed (by omega) (by omega) hi hrng (by
            rcases o2 with o2 | o2
            · exact Or.inl (by omega)
            · exact Or.inr (Or.inl (hlast o2)))]
          exact ih (i + 1) (d - 1) _ M1 (by omega) (by omega) (by omega) hM1 o3 v b fin
        · rw [okL, if_neg c40, if_neg c41] at hok
          rw [depL, if_neg c40, if_neg c41] at fin
          simp only [Bool.and_eq_true, Bool.or_eq_true, decide_eq_true_eq, Bool.true_and, beq_iff_eq] at hok
          obtain ⟨o1, o3⟩ := hok
          rw [if_neg c41, ip_93 (d := d) (by rw [nI_add, Nat.add_zero]) (by omega) (by omega) hi hrng (by
            rcases o1 with (o1 | o1) | (o1 | o1) | o1
            · exact Or.inl o1
            · exact Or.inr (Or.inl (hlast o1))
            · omega
            · omega
            · omega)]
          exact ih (i + 1) d _ M1 (by omega) (by omega) (by omega) hM1 o3 v b fin
    · have : i = (txt t).length := by omega
      subst this
      rw [if_neg (fun q => hi ((nlt (by omega) (by omega)).mp q))]
      have := fin M hM
      rw [List.drop_length] at this
      have e : sg ||| sgL [] = sg := Nat.or_zero sg
      rw [e] at this
      exact this
theorem isPart_ok {M : Mem} {a : Abs} {k p : Nat} {w : Wsh} (hA : okA a) (h : RelC M a) (ht : tw a.1 k = some w) (hp : p < (wP w).length) : Ans (f_L_isPart (nI k) (nI p) M) (nI 1) a := by
  have hw := tw_ok hA.1 ht
  obtain ⟨t, hpt⟩ : ∃ t, (wP w)[p] = t := ⟨_, rfl⟩
  obtain ⟨t1, t2⟩ := hw.2.2.2.2 (wP w)[p] (List.getElem_mem hp)
  rw [hpt] at t1 t2
  have hwl := txt_len _ t1
  have hwle := wid_le _ t1
  have hlen : (txt t).length < 400 := by omega
  have hsz := wid_size t t1
  have hspos := size_pos t
  have hfl := fl_rng t1
  obtain ⟨d1, d2⟩ := txt_top t t1
  unfold f_L_isPart
  refine Ans.bind (c_prt hA h ht hp (q := 1) (by omega)) (fun M1 h1 => ?_)
  dsimp only
  rw [hpt, show pq t 1 = nI (txt t).length from rfl]
  refine Ans.bind (c_letter hA h1 ht hp (i := (txt t).length) (by omega)) (fun M2 h2 => ?_)
  dsimp only
  rw [hpt, show ltr t (txt t).length = -5 from dif_neg (Nat.lt_irrefl _), if_pos rfl]
  refine Ans.bind (c_prt hA h2 ht hp (q := 0) (by omega)) (fun M3 h3 => ?_)
  dsimp only
  rw [hpt, show pq t 0 = nI (size t) from rfl, if_neg (fun q => by have := (nlt (by omega) (by omega)).mp q; omega)]
  unfold f_L_isPart_42
  refine ip_47 hA ht hp hpt fuelN 0 0 0 M3 (Nat.zero_le _) (by unfold fuelN; omega) (Nat.le_refl _) h3 (by rw [List.drop_zero]; exact d1) _ _ (fun M4 h4 => ?_)
  rw [List.drop_zero, d2, txt_sg t t1, Nat.zero_or]
  unfold f_L_isPart_183
  refine Ans.bind (c_letter hA h4 ht hp (i := 0) (by omega)) (fun M5 h5 => ?_)
  dsimp only
  rw [hpt, ltr_0, if_neg (show ¬ nI 1 = nI 0 by decide), if_pos rfl]
  refine Ans.bind (c_prt hA h5 ht hp (q := 2) (by omega)) (fun M6 h6 => ?_)
  dsimp only
  rw [hpt, show pq t 2 = nI (sgn t) from rfl, if_pos rfl]
  refine Ans.bind (c_prt hA h6 ht hp (q := 0) (by omega)) (fun M7 h7 => ?_)
  dsimp only
  rw [hpt, show pq t 0 = nI (size t) from rfl]
  have s1 := size_1 t1
  have mid : f_L_isPart_255 (nI k) (nI p) (nI (fl t)) (nI 1) M7 = (if nI (size t) = nI 1 then f_L_isPart_230 (nI k) (nI p) (nI (txt t).length) (nI (fl t)) (nI 1) M7 else f_L_isPart_230 (nI k) (nI p) (nI (txt t).length) (nI (fl t)) (nI 0) M7) := by
    unfold f_L_isPart_230 f_L_isPart_242 f_L_isPart_247
    simp (disch := omega) only [neq]
    by_cases q1 : size t = 1
    · rw [if_pos q1]
      rcases s1.mp q1 with q | q
      · rw [if_pos q, if_pos trivial]
      · by_cases q2 : (txt t).length = 1
        · rw [if_pos q2, if_pos trivial]
        · rw [if_neg q2, if_pos q, if_pos trivial]
    · have n1 : ¬ (txt t).length = 1 := fun q => q1 (s1.mpr (Or.inl q))
      have n2 : ¬ fl t = 45 := fun q => q1 (s1.mpr (Or.inr q))
      rw [if_neg q1, if_neg n1, if_neg n2, if_pos trivial]
  rw [← mid]
  obtain ⟨k0, k1, k2, k3, k4, k5, k6⟩ := fl_kind (t := t)
  have hF : tae t = false → Ans (f_L_isPart_283 (nI k) (nI p) M7) (nI 1) a := fun q => by
    unfold f_L_isPart_283 f_L_isPart_335 f_L_isPart_340
    refine Ans.bind (c_prt hA h7 ht hp (q := 3) (by omega)) (fun M8 h8 => ?_)
    dsimp only
    rw [hpt, show pq t 3 = bI (tae t) from rfl, q, bI_f, if_pos rfl]
    exact Ans.zt h8
  have hT : tae t = true → Ans (f_L_isPart_324 (nI k) (nI p) M7) (nI 1) a := fun q => by
    unfold f_L_isPart_324 f_L_isPart_335 f_L_isPart_340
    refine Ans.bind (c_prt hA h7 ht hp (q := 3) (by omega)) (fun M8 h8 => ?_)
    dsimp only
    rw [hpt, show pq t 3 = bI (tae t) from rfl, q, bI_t, if_pos rfl]
    exact Ans.zt h8
  unfold f_L_isPart_255 f_L_isPart_335 f_L_isPart_340
  rw [if_neg (show ¬ nI 1 = nI 0 by decide)]
  simp (disch := omega) only [neq]
  by_cases q1 : fl t = 88
  · rw [if_pos q1]; exact hF (tae_f (Or.inl (k5.mp q1)))
  rw [if_neg q1]
  by_cases q2 : fl t = 48
  · rw [if_pos q2]; exact hF (tae_f (Or.inr (Or.inl (k0.mp q2))))
  rw [if_neg q2]
  by_cases q3 : fl t = 62
  · rw [if_pos q3]; exact hF (tae_f (Or.inr (Or.inr (k2.mp q3))))
  rw [if_neg q3]
  by_cases q4 : fl t = 78
  · rw [if_pos q4]; exact hT (tae_t (Or.inl (k6.mp q4)))
  rw [if_neg q4]
  by_cases q5 : fl t = 49
  · rw [if_pos q5]; exact hT (tae_t (Or.inr (Or.inl (k1.mp q5))))
  rw [if_neg q5]
  by_cases q6 : fl t = 45
  · rw [if_pos q6]; exact hT (tae_t (Or.inr (Or.inr (Or.inr (k4.mp q6)))))
  rw [if_neg q6]
  by_cases q7 : fl t = 46
  · rw [if_pos q7]; exact hT (tae_t (Or.inr (Or.inr (Or.inl (k3.mp q7)))))
  rw [if_neg q7]
  exact Ans.zt h7
