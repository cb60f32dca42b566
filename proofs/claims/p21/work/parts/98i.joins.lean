/-! joins(): a joined wish is decided by its two -/
theorem shN {c : Nat} (hc : c < 2147483648) (s : Int32) (k : Nat) (hs : (s.toBitVec.smod 32).toNat = k) : nI c >>> s = nI (c / 2 ^ k) := pk_shrN (by omega) s k hs
theorem rmN {c d : Nat} (hc : c < 2147483648) (h0 : 0 < d) (hd : d < 2147483648) : nI c - nI c / nI d * nI d = nI (c % d) := pk_rem (by omega) h0 (by omega)
theorem items_in {k : Nat} {ts : List T} {t : T} (ht : t ∈ ts) (hk : kind t ≠ k) : t ∈ items k ts := List.mem_flatMap.mpr ⟨t, ht, by rw [if_neg hk]; exact List.mem_singleton_self t⟩
theorem jt_abs {k : Nat} {ts : List T} (hk : k = 20 ∨ k = 21) (h : ∃ t ∈ ts, kind t = 1 - neu k) : joinT k ts = lf (1 - neu k) := by
  obtain ⟨t, ht, e⟩ := h
  have hn := neu_lt k
  have ha : absb k (items k ts) = true := by
    unfold absb
    rw [(has_iff _ _).mpr ⟨t, items_in ht (by omega), e⟩]
    rfl
  unfold joinT joinI endT
  rw [ha, if_pos rfl]
theorem jt_neu {k : Nat} {ts : List T} (hk : k = 20 ∨ k = 21) (h : ∀ t ∈ ts, kind t = neu k) : joinT k ts = lf (neu k) := by
  have hn := neu_lt k
  have hi : ∀ x ∈ items k ts, kind x = neu k := fun x hx => by
    obtain ⟨t, ht, hx⟩ := List.mem_flatMap.mp hx
    have := h t ht
    rw [if_neg (by omega)] at hx
    rw [List.mem_singleton.mp hx]; exact this
  have hf : ∀ j, j ≠ neu k → has (items k ts) j = false := fun j hj => by
    cases q : has (items k ts) j with
    | false => rfl
    | true =>
      obtain ⟨x, hx, e⟩ := (has_iff _ _).mp q
      have := hi x hx
      omega
  have ha : absb k (items k ts) = false := by
    unfold absb
    rw [hf (1 - neu k) (by omega), hf 2 (by omega), Bool.false_and, Bool.false_or, Bool.false_or]
    refine List.any_eq_false.mpr (fun s _ => ?_)
    rw [hf (4 + s) (by omega), Bool.false_and]
    decide
  have hkp : keep k (items k ts) = [] := by
    unfold keep
    refine List.filter_eq_nil_iff.mpr (fun x hx => ?_)
    rw [hi x hx]
    simp
  unfold joinT joinI
  rw [ha, hkp]
  rfl
theorem its_lf {i : Nat} (h : i < 16) : its1 20 (lf i) = [lf i] := if_neg (by rw [kind_lf]; omega)
theorem wv_l0 : wv [lf 0] = 0 := by decide
theorem wv_l1 : wv [lf 1] = 1 := by decide
theorem J0 {l : List T} (h : wv l = 0) : joinT 20 l = lf 0 := by
  obtain ⟨t, ht, e⟩ := wv_0.mp h
  exact jt_abs (Or.inl rfl) ⟨t, ht, e⟩
theorem J1 {l : List T} (hl : 1 ≤ l.length) (h : wv l = 1) : joinT 20 l = lf 1 := jt_neu (Or.inl rfl) ((wv_1 hl).mp h)
theorem jn_all {w1 w2 : Wsh} (h1 : 1 ≤ (wP w1).length) (h2 : 1 ≤ (wP w2).length) : (wv (wP w1) = 0 ∨ wv (wP w2) = 0 → wv (its1 20 (jnT 0 w1 w2)) = 0) ∧ (wv (wP w1) = 1 → wv (wP w2) = 1 → wv (its1 20 (jnT 0 w1 w2)) = 1) := by
  unfold jnT
  rw [if_pos rfl]
  refine ⟨fun h => ?_, fun ha hb => ?_⟩
  · have : joinT 20 [joinT 20 (wP w1), joinT 20 (wP w2)] = lf 0 := by
      rcases h with h | h
      · exact jt_abs (Or.inl rfl) ⟨_, List.mem_cons_self, by rw [J0 h]; rfl⟩
      · exact jt_abs (Or.inl rfl) ⟨_, List.mem_cons_of_mem _ List.mem_cons_self, by rw [J0 h]; rfl⟩
    rw [this, its_lf (by omega), wv_l0]
  · have : joinT 20 [joinT 20 (wP w1), joinT 20 (wP w2)] = lf 1 := by
      refine jt_neu (Or.inl rfl) (fun t ht => ?_)
      rcases List.mem_cons.mp ht with rfl | ht
      · rw [J1 h1 ha]; rfl
      · rw [List.mem_singleton.mp ht, J1 h2 hb]; rfl
    rw [this, its_lf (by omega), wv_l1]
theorem jn_any {w1 w2 : Wsh} (h1 : 1 ≤ (wP w1).length) (h2 : 1 ≤ (wP w2).length) : (wv (wP w1) = 1 ∨ wv (wP w2) = 1 → wv (its1 20 (jnT 1 w1 w2)) = 1) ∧ (wv (wP w1) = 0 → wv (wP w2) = 0 → wv (its1 20 (jnT 1 w1 w2)) = 0) := by
  unfold jnT
  rw [if_neg (show ¬ (1 : Nat) = 0 by decide)]
  refine ⟨fun h => ?_, fun ha hb => ?_⟩
  · have : joinT 21 [joinT 20 (wP w1), joinT 20 (wP w2)] = lf 1 := by
      rcases h with h | h
      · exact jt_abs (Or.inr rfl) ⟨_, List.mem_cons_self, by rw [J1 h1 h]; rfl⟩
      · exact jt_abs (Or.inr rfl) ⟨_, List.mem_cons_of_mem _ List.mem_cons_self, by rw [J1 h2 h]; rfl⟩
    rw [this, its_lf (by omega), wv_l1]
  · have : joinT 21 [joinT 20 (wP w1), joinT 20 (wP w2)] = lf 0 := by
      refine jt_neu (Or.inr rfl) (fun t ht => ?_)
      rcases List.mem_cons.mp ht with rfl | ht
      · rw [J0 ha]; rfl
      · rw [List.mem_singleton.mp ht, J0 hb]; rfl
    rw [this, its_lf (by omega), wv_l0]
/-- a wish that has come -/
theorem newW_InvW {s : Sta} {t : T} : InvW s.2.1.length (newW s t) := ⟨rfl, Nat.le_refl _, Or.inl ⟨rfl, rfl⟩⟩
theorem addS_Inv {a : Abs} {t : T} (hI : Inv a) (hl : a.1.2.2.length < 8) (hA : AR t = true) (hok : okPt t) : Inv (addS a.1 t, recd a.2.1 a.1, a.2.2) := by
  refine ⟨okA_act hI.1 (addS_ok hI.1.1 hl hA hok), fun w hw => ?_⟩
  rcases List.mem_append.mp hw with hw | hw
  · exact hI.2 w hw
  · rw [List.mem_singleton.mp hw]; exact newW_InvW
theorem addS_tw (s : Sta) (t : T) : tw (addS s t) s.2.2.length = some (newW s t) := by
  unfold tw
  have : (addS s t).2.2[s.2.2.length]? = some (newW s t) := by
    show (s.2.2 ++ [newW s t])[s.2.2.length]? = _
    simp
  rw [this]
  rfl
theorem jn_26 {M : Mem} {a : Abs} {i j any : Nat} (hi : i < 8) (hj : j < 8) (hany : any < 2) (hI : Inv a) (h : RelC M a) (hend : a.1.1 = false) : AnsE (f_L_joins_26 (nI i) (nI j) (nI any) M) (nI 1) (Nx a) := by
  have hA := hI.1
  have h8 := hA.1.2.2.1
  have h40 := hA.1.1
  have m1 : (-1 : Int32) < nI 0 := by decide
  have no : ∀ {M' : Mem}, RelC M' a → AnsE (f_L_joins_71 (-1) M') (nI 1) (Nx a) := fun g => by
    unfold f_L_joins_71 f_L_joins_82
    rw [if_pos rfl]
    exact ⟨a, Nx.rfl' hI, Ans.zt g⟩
  unfold f_L_joins_26
  refine AnsE.bind (c_count hA h (q := 3) (by omega)) (fun M1 g1 => ?_)
  dsimp only
  rw [show cq a 3 = nI a.1.2.2.length from rfl]
  cases ht1 : tw a.1 i with
  | none =>
    refine AnsE.bind (c_wish0 (y := nI 0) (by omega) hA g1 ht1) (fun M2 g2 => ?_)
    dsimp only
    have fin : ∀ {M3 : Mem} (v : Int32), RelC M3 a → AnsE ((f_X6_join (nI i) (nI j) (nI any) M3).bind fun q4 => if (-1 : Int32) < nI 0 then f_L_joins_71 q4.1 q4.2 else if v < nI 0 then f_L_joins_71 q4.1 q4.2 else if q4.1 < nI 0 then (if q4.1 = -3 then f_L_joins_100 (nI 1) q4.2 else f_L_joins_100 (nI 0) q4.2) else (f_X6_wish q4.1 (nI 0) q4.2).bind fun q8 => if q4.1 = nI a.1.2.2.length then (f_X6_wish q4.1 (nI 8) q8.2).bind fun q10 => (f_X6_count (nI 0) q10.2).bind fun q11 => if q10.1 = q11.1 then (f_X6_wish q4.1 (nI 4) q11.2).bind fun q13 => if q13.1 = -5 then f_L_joins_150 (nI any) (-1) v q8.1 (nI 1) q13.2 else f_L_joins_149 (nI any) (-1) v q8.1 q13.2 else f_L_joins_149 (nI any) (-1) v q8.1 q11.2 else f_L_joins_149 (nI any) (-1) v q8.1 q8.2) (nI 1) (Nx a) := fun v g => by
      refine AnsE.bind (c_join0 (by omega) (by omega) hA g (Or.inl ht1)) (fun M4 g4 => ?_)
      dsimp only
      rw [if_pos m1]
      exact no g4
    cases ht2 : tw a.1 j with
    | none =>
      refine AnsE.bind (c_wish0 (y := nI 0) (by omega) hA g2 ht2) (fun M3 g3 => ?_)
      exact fin _ g3
    | some w =>
      refine AnsE.bind (c_wish hA g2 ht2 (q := 0) (by omega)) (fun M3 g3 => ?_)
      exact fin _ g3
  | some w1 =>
    have hw1 := tw_ok hA.1 ht1
    have hv1 := hw1.1
    refine AnsE.bind (c_wish hA g1 ht1 (q := 0) (by omega)) (fun M2 g2 => ?_)
    dsimp only
    rw [show wq w1 0 = nI w1.2.1 from rfl]
    cases ht2 : tw a.1 j with
    | none =>
      refine AnsE.bind (c_wish0 (y := nI 0) (by omega) hA g2 ht2) (fun M3 g3 => ?_)
      dsimp only
      refine AnsE.bind (c_join0 (by omega) (by omega) hA g3 (Or.inr ht2)) (fun M4 g4 => ?_)
      dsimp only
      rw [if_neg (neg_n (show w1.2.1 < 2147483648 by omega)), if_pos m1]
      exact no g4
    | some w2 =>
      have hw2 := tw_ok hA.1 ht2
      have hv2 := hw2.1
      refine AnsE.bind (c_wish hA g2 ht2 (q := 0) (by omega)) (fun M3 g3 => ?_)
      dsimp only
      rw [show wq w2 0 = nI w2.2.1 from rfl]
      rcases c_join hA g3 ht1 ht2 hany hend with e | ⟨l8, hok, hAR, e⟩
      · refine AnsE.bind e (fun M4 g4 => ?_)
        dsimp only
        rw [if_neg (neg_n (show w1.2.1 < 2147483648 by omega)), if_neg (neg_n (show w2.2.1 < 2147483648 by omega)), if_pos (show (-3 : Int32) < nI 0 by decide), if_pos rfl]
        unfold f_L_joins_100
        exact ⟨a, Nx.rfl' hI, Ans.zt g4⟩
      · have hIb := addS_Inv hI l8 hAR hok
        have okb := hIb.1
        have htn := addS_tw a.1 (jnT any w1 w2)
        refine AnsE.bind e (fun M4 g4 => ?_)
        dsimp only
        rw [if_neg (neg_n (show w1.2.1 < 2147483648 by omega)), if_neg (neg_n (show w2.2.1 < 2147483648 by omega)), if_neg (neg_n (show a.1.2.2.length < 2147483648 by omega))]
        refine ⟨_, ⟨hIb, rfl, rfl, Nat.le_succ _⟩, ?_⟩
        refine Ans.bind (c_wish okb g4 htn (q := 0) (by omega)) (fun M5 g5 => ?_)
        dsimp only
        rw [if_pos rfl]
        refine Ans.bind (c_wish okb g5 htn (q := 8) (by omega)) (fun M6 g6 => ?_)
        dsimp only
        refine Ans.bind (c_count okb g6 (q := 0) (by omega)) (fun M7 g7 => ?_)
        dsimp only
        rw [if_pos (show wq (newW a.1 (jnT any w1 w2)) 8 = cq (addS a.1 (jnT any w1 w2), recd a.2.1 a.1, a.2.2) 0 from rfl)]
        refine Ans.bind (c_wish okb g7 htn (q := 4) (by omega)) (fun M8 g8 => ?_)
        dsimp only
        rw [if_pos (show wq (newW a.1 (jnT any w1 w2)) 4 = -5 from rfl), show wq (newW a.1 (jnT any w1 w2)) 0 = nI (wv (its1 20 (jnT any w1 w2))) from rfl]
        have i1 := (hI.2 w1 (tw_mem ht1)).1
        have i2 := (hI.2 w2 (tw_mem ht2)).1
        have hvn := wv_le (its1 20 (jnT any w1 w2))
        unfold f_L_joins_150 f_L_joins_174 f_L_joins_211 f_L_joins_237 f_L_joins_241 f_L_joins_242
        rw [if_neg (show ¬ nI 1 = nI 0 by decide)]
        simp (disch := omega) only [neq]
        have T1 := Ans.zt g8
        rcases (show any = 0 ∨ any = 1 by omega) with z | z
        · subst z
          obtain ⟨p1, p2⟩ := jn_all (w1 := w1) (w2 := w2) hw1.2.2.1 hw2.2.2.1
          rw [← i1, ← i2] at p1 p2
          rw [if_pos rfl]
          by_cases q1 : w1.2.1 = 0
          · rw [if_pos q1, if_pos (p1 (Or.inl q1))]; exact T1
          rw [if_neg q1]
          by_cases q2 : w2.2.1 = 0
          · rw [if_pos q2, if_pos (p1 (Or.inr q2))]; exact T1
          rw [if_neg q2]
          by_cases q3 : w1.2.1 = 1
          · rw [if_pos q3]
            by_cases q4 : w2.2.1 = 1
            · rw [if_pos q4, if_pos (p2 q3 q4)]; exact T1
            · rw [if_neg q4]; exact T1
          · rw [if_neg q3]; exact T1
        · subst z
          obtain ⟨p1, p2⟩ := jn_any (w1 := w1) (w2 := w2) hw1.2.2.1 hw2.2.2.1
          rw [← i1, ← i2] at p1 p2
          rw [if_neg (show ¬ (1 : Nat) = 0 by decide)]
          by_cases q1 : w1.2.1 = 1
          · rw [if_pos q1, if_pos (p1 (Or.inl q1))]; exact T1
          rw [if_neg q1]
          by_cases q2 : w2.2.1 = 1
          · rw [if_pos q2, if_pos (p1 (Or.inr q2))]; exact T1
          rw [if_neg q2]
          by_cases q3 : w1.2.1 = 0
          · rw [if_pos q3]
            by_cases q4 : w2.2.1 = 0
            · rw [if_pos q4, if_pos (p2 q3 q4)]; exact T1
            · rw [if_neg q4]; exact T1
          · rw [if_neg q3]; exact T1
theorem joins_ok {M : Mem} {a : Abs} {c : Nat} (hc : c < 2147483648) (hI : Inv a) (h : RelC M a) (hend : a.1.1 = false) : AnsE (f_L_joins (nI c) M) (nI 1) (Nx a) := by
  unfold f_L_joins
  rw [rmN hc (by omega) (by omega), shN hc (nI 2 &&& nI 31) 2 (by decide), shN hc (nI 5 &&& nI 31) 5 (by decide), rmN (by omega) (by omega) (by omega), rmN (by omega) (by omega) (by omega)]
  simp (disch := omega) only [neq]
  by_cases q : c % 2 = 1
  · rw [if_pos q]
    exact jn_26 (by omega) (by omega) (by omega) hI h hend
  · rw [if_neg q]
    exact jn_26 (by omega) (by omega) (by omega) hI h hend
