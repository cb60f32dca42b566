/-! isAll(): all wishes, the counts, the order of the open ones -/
def Inv (a : Abs) : Prop := okA a ∧ ∀ w ∈ a.1.2.2, InvW a.1.2.1.length w
theorem tw_mem {s : Sta} {k : Nat} {w : Wsh} (h : tw s k = some w) : w ∈ s.2.2 := by
  obtain ⟨hk, rfl, -⟩ := tw_some h
  exact List.getElem_mem hk
theorem hmv_tw {s : Sta} {k : Nat} {w : Wsh} (h : tw s k = some w) (v : Nat) : hmv s v (k + 1) = hmv s v k + one (w.2.1 == v) := by
  obtain ⟨hk, rfl, hw⟩ := tw_some h
  rw [hmv_succ, List.getElem?_eq_getElem hk]
  dsimp only
  rw [hw, Bool.true_and]
theorem hmv_no {s : Sta} {k : Nat} (h : tw s k = none) (v : Nat) : hmv s v (k + 1) = hmv s v k := by
  rw [hmv_succ]
  rcases Nat.lt_or_ge k s.2.2.length with hk | hk
  · rw [List.getElem?_eq_getElem hk]
    dsimp only
    rw [tw_none h hk, Bool.false_and]
    rfl
  · rw [List.getElem?_eq_none hk]
    rfl
theorem opn_hmv (s : Sta) (n : Nat) : hmv s 2 (n + 1) = hmv s 2 n + one (opn s n) := rfl
theorem opn_tw {s : Sta} {k : Nat} (h : opn s k = true) : ∃ w, tw s k = some w ∧ w.2.1 = 2 := by
  unfold opn at h
  cases e : s.2.2[k]? with
  | none => rw [e] at h; cases h
  | some w =>
    rw [e] at h
    dsimp only at h
    simp only [Bool.and_eq_true, beq_iff_eq] at h
    refine ⟨w, ?_, h.2⟩
    unfold tw
    rw [e]
    dsimp only
    rw [if_pos h.1]
theorem opn_lt' {s : Sta} {k : Nat} (h : opn s k = true) : k < s.2.2.length := by
  obtain ⟨w, hw, -⟩ := opn_tw h
  exact (tw_some hw).1
theorem ahd_irr (s : Sta) (k : Nat) : ahd s k k = false := by
  cases q : ahd s k k
  · rfl
  · have := (ahd_iff s k k).mp q; omega
/-- fewer open wishes are ahead of one than there are -/
theorem rnk_open {s : Sta} {k : Nat} (h : opn s k = true) : ∀ n, rnk s k n + (if k < n then 1 else 0) ≤ hmv s 2 n := by
  intro n
  induction n with
  | zero => rw [if_neg (Nat.not_lt_zero _)]; exact Nat.zero_le _
  | succ n ih =>
    rw [rnk_succ, opn_hmv]
    by_cases e : k = n
    · subst e
      rw [if_neg (Nat.lt_irrefl _)] at ih
      rw [ahd_irr, h, if_pos (Nat.lt_succ_self _)]
      show _ + 0 + 1 ≤ _ + 1
      omega
    · have : one (ahd s n k) ≤ one (opn s n) := by
        cases q : ahd s n k
        · exact Nat.zero_le _
        · rw [((ahd_iff s n k).mp q).1]; exact Nat.le_refl _
      have e2 : (if k < n + 1 then 1 else 0) = if k < n then 1 else 0 := by
        by_cases q : k < n
        · rw [if_pos q, if_pos (by omega)]
        · rw [if_neg q, if_neg (by omega)]
      rw [e2]
      omega
def opL (s : Sta) (n : Nat) : List Nat := (List.range n).filter (opn s)
theorem opL_len (s : Sta) : ∀ n, (opL s n).length = hmv s 2 n := by
  intro n
  induction n with
  | zero => rfl
  | succ n ih =>
    unfold opL at ih ⊢
    rw [List.range_succ, List.filter_append, List.length_append, ih, opn_hmv]
    cases q : opn s n with
    | true => rw [List.filter_cons_of_pos q]; rfl
    | false => rw [List.filter_cons_of_neg (by rw [q]; decide)]; rfl
theorem nd_map {f : Nat → Nat} : ∀ {l : List Nat}, l.Nodup → (∀ x ∈ l, ∀ y ∈ l, f x = f y → x = y) → (l.map f).Nodup
  | [], _, _ => List.nodup_nil
  | x :: l, h, hf => by
    obtain ⟨h1, h2⟩ := List.nodup_cons.mp h
    rw [List.map_cons]
    refine List.nodup_cons.mpr ⟨fun q => ?_, nd_map h2 (fun a ha b hb => hf a (List.mem_cons_of_mem _ ha) b (List.mem_cons_of_mem _ hb))⟩
    obtain ⟨y, hy, e⟩ := List.mem_map.mp q
    have := hf y (List.mem_cons_of_mem _ hy) x List.mem_cons_self e
    subst this
    exact h1 hy
theorem nd_bound : ∀ (m : Nat) (l : List Nat), l.Nodup → (∀ x ∈ l, x < m) → l.length ≤ m
  | 0, [], _, _ => Nat.le_refl _
  | 0, x :: l, _, h => absurd (h x List.mem_cons_self) (Nat.not_lt_zero _)
  | m + 1, l, h, hb => by
    have h1 := nd_bound m (l.filter fun x => x != m) (h.filter _) (fun x hx => by
      obtain ⟨a, b⟩ := List.mem_filter.mp hx
      have := hb x a
      have : x ≠ m := by simpa using b
      omega)
    have h2 : ∀ l : List Nat, l.Nodup → l.length ≤ (l.filter fun x => x != m).length + 1 := by
      intro l
      induction l with
      | nil => intro _; exact Nat.zero_le _
      | cons x l ih =>
        intro hn
        obtain ⟨n1, n2⟩ := List.nodup_cons.mp hn
        by_cases e : x = m
        · subst e
          have : (l.filter fun y => y != x) = l := List.filter_eq_self.mpr (fun y hy => by
            have : y ≠ x := fun q => n1 (q ▸ hy)
            simpa using this)
          rw [List.filter_cons_of_neg (by simp), this, List.length_cons]
          omega
        · have := ih n2
          rw [List.filter_cons_of_pos (by simpa using e), List.length_cons, List.length_cons]
          omega
    have := h2 l h
    omega
/-- each rank has its wish -/
theorem rnk_surj {s : Sta} {r : Nat} (hr : r < hmv s 2 s.2.2.length) : ∃ k, k < s.2.2.length ∧ opn s k = true ∧ rnk s k s.2.2.length = r := by
  refine Classical.byContradiction (fun hno => ?_)
  have hmem : ∀ x ∈ opL s s.2.2.length, x < s.2.2.length ∧ opn s x = true := fun x hx => by
    obtain ⟨a, b⟩ := List.mem_filter.mp hx
    exact ⟨List.mem_range.mp a, b⟩
  have h1 : ((opL s s.2.2.length).map fun k => rnk s k s.2.2.length).Nodup := nd_map (List.Pairwise.filter _ List.nodup_range) (fun x hx y hy e => rnk_uniq (hmem x hx).2 (hmem y hy).2 (hmem x hx).1 (hmem y hy).1 e)
  have h2 : r ∉ (opL s s.2.2.length).map fun k => rnk s k s.2.2.length := fun q => by
    obtain ⟨k, hk, e⟩ := List.mem_map.mp q
    exact hno ⟨k, (hmem k hk).1, (hmem k hk).2, e⟩
  have h3 := nd_bound (hmv s 2 s.2.2.length) (r :: (opL s s.2.2.length).map fun k => rnk s k s.2.2.length) (List.nodup_cons.mpr ⟨h2, h1⟩) (fun x hx => by
    rcases List.mem_cons.mp hx with rfl | hx
    · exact hr
    · obtain ⟨k, hk, e⟩ := List.mem_map.mp hx
      have := rnk_open (hmem k hk).2 s.2.2.length
      rw [if_pos (hmem k hk).1] at this
      omega)
  rw [List.length_cons, List.length_map, opL_len] at h3
  omega
theorem rnk_ahd {s : Sta} {i j n : Nat} (hi : opn s i = true) (hj : opn s j = true) (hil : i < n) (hjl : j < n) (h : rnk s i n < rnk s j n) : ahd s i j = true := by
  have tr : ∀ {a b : Nat}, ahd s a b = true → ∀ j, ahd s j a = true → ahd s j b = true := fun {a b} hab j hj => by
    have h1 := (ahd_iff s a b).mp hab
    have h2 := (ahd_iff s j a).mp hj
    exact (ahd_iff s j b).mpr ⟨h2.1, by omega⟩
  by_cases e : i = j
  · subst e; omega
  · have hab : ahd s i j = true ∨ ahd s j i = true := by
      by_cases q : szw s j < szw s i
      · exact Or.inl ((ahd_iff s i j).mpr ⟨hi, Or.inl q⟩)
      · by_cases q2 : szw s i < szw s j
        · exact Or.inr ((ahd_iff s j i).mpr ⟨hj, Or.inl q2⟩)
        · by_cases q3 : i < j
          · exact Or.inl ((ahd_iff s i j).mpr ⟨hi, Or.inr ⟨by omega, q3⟩⟩)
          · exact Or.inr ((ahd_iff s j i).mpr ⟨hj, Or.inr ⟨by omega, by omega⟩⟩)
    rcases hab with q | q
    · exact q
    · have := rnk_lt (tr q) (ahd_irr s j) q n hjl
      omega
/-- open() -/
theorem c_openN {M : Mem} {a : Abs} (hA : okA a) (h : RelC M a) : Ans (f_X6_open (nI (hmv a.1 2 a.1.2.2.length)) M) (-5) a := by
  have h8 := hA.1.2.2.1
  have hm := hmv_le a.1 2 a.1.2.2.length
  obtain ⟨v, e, hv⟩ := c_open (r := hmv a.1 2 a.1.2.2.length) hA h (by omega)
  rcases hv with ⟨k, k1, k2, k3, k4⟩ | ⟨-, h2⟩
  · have := rnk_open k2 a.1.2.2.length
    rw [if_pos k1] at this
    have := (neq (by omega) (by omega)).mp k3
    omega
  · rw [h2] at e
    exact e
theorem c_openK {M : Mem} {a : Abs} {r : Nat} (hA : okA a) (h : RelC M a) (hr : r < hmv a.1 2 a.1.2.2.length) : ∃ k, k < a.1.2.2.length ∧ opn a.1 k = true ∧ rnk a.1 k a.1.2.2.length = r ∧ Ans (f_X6_open (nI r) M) (nI k) a := by
  have h8 := hA.1.2.2.1
  have hm := hmv_le a.1 2 a.1.2.2.length
  obtain ⟨v, e, hv⟩ := c_open (r := r) hA h (by omega)
  rcases hv with ⟨k, k1, k2, k3, k4⟩ | ⟨h1, h2⟩
  · have rl := rnk_le a.1 k a.1.2.2.length
    rw [k4] at e
    exact ⟨k, k1, k2, (neq (by omega) (by omega)).mp k3, e⟩
  · obtain ⟨k, k1, k2, k3⟩ := rnk_surj hr
    exact absurd (by rw [k3]) (h1 k k1 k2)
/-- the order of the open wishes -/
theorem ia_190 {a : Abs} (hA : okA a) : ∀ (n k : Nat) (M : Mem), 1 ≤ k → k < 1000 → hmv a.1 2 a.1.2.2.length < k + n → RelC M a → Ans (f_L_isAll_190 (n + 1) (nI 1) (nI k) M) (nI 1) a := by
  have h8 := hA.1.2.2.1
  have hm := hmv_le a.1 2 a.1.2.2.length
  have fin : ∀ {M' : Mem}, RelC M' a → Ans (f_L_isAll_279 (nI 1) M') (nI 1) a := fun g => by
    unfold f_L_isAll_279
    exact Ans.zt g
  intro n
  induction n with
  | zero =>
    intro k M h1 h9 h2 hM
    rw [f_L_isAll_190]
    refine Ans.bind (c_count hA hM (q := 4) (by omega)) (fun M1 g1 => ?_)
    dsimp only
    rw [show cq a 4 = nI (hmv a.1 2 a.1.2.2.length) from rfl, if_neg (fun z => by have := (nlt (by omega) (by omega)).mp z; omega)]
    exact fin g1
  | succ n ih =>
    intro k M h1 h9 h2 hM
    rw [f_L_isAll_190]
    refine Ans.bind (c_count hA hM (q := 4) (by omega)) (fun M1 g1 => ?_)
    dsimp only
    rw [show cq a 4 = nI (hmv a.1 2 a.1.2.2.length) from rfl]
    by_cases hk : k < hmv a.1 2 a.1.2.2.length
    · rw [if_pos ((nlt (by omega) (by omega)).mpr hk), if_neg (show ¬ nI 1 = nI 0 by decide), nsub h1]
      obtain ⟨i, i1, i2, i3, i4⟩ := c_openK (r := k - 1) hA g1 (by omega)
      refine Ans.bind i4 (fun M2 g2 => ?_)
      dsimp only
      obtain ⟨j, j1, j2, j3, j4⟩ := c_openK (r := k) hA g2 hk
      refine Ans.bind j4 (fun M3 g3 => ?_)
      dsimp only
      obtain ⟨wi, ti, -⟩ := opn_tw i2
      obtain ⟨wj, tj, -⟩ := opn_tw j2
      refine Ans.bind (c_wish hA g3 ti (q := 7) (by omega)) (fun M4 g4 => ?_)
      dsimp only
      refine Ans.bind (c_wish hA g4 tj (q := 7) (by omega)) (fun M5 g5 => ?_)
      dsimp only
      have nx : ∀ {M' : Mem}, RelC M' a → Ans (f_L_isAll_267 (f_L_isAll_190 (n + 1)) (nI k) M') (nI 1) a := fun g => by
        unfold f_L_isAll_267 f_L_isAll_272
        rw [nI_add]
        exact ih (k + 1) _ (by omega) (by omega) (by omega) g
      have li := ssum_le (tw_ok hA.1 ti).2.2
      have lj := ssum_le (tw_ok hA.1 tj).2.2
      have si : szw a.1 i = ssum (wP wi) := by rw [szw_in i1, (tw_some ti).2.1]
      have sj : szw a.1 j = ssum (wP wj) := by rw [szw_in j1, (tw_some tj).2.1]
      rw [show wq wi 7 = nI (ssum (wP wi)) from rfl, show wq wj 7 = nI (ssum (wP wj)) from rfl]
      have ha := (ahd_iff a.1 i j).mp (rnk_ahd i2 j2 i1 j1 (by omega))
      rw [si, sj] at ha
      by_cases q : ssum (wP wj) < ssum (wP wi)
      · rw [if_pos ((nlt (by omega) (by omega)).mpr q)]
        exact nx g5
      · rw [if_neg (fun z => q ((nlt (by omega) (by omega)).mp z))]
        refine Ans.bind (c_wish hA g5 ti (q := 7) (by omega)) (fun M6 g6 => ?_)
        dsimp only
        refine Ans.bind (c_wish hA g6 tj (q := 7) (by omega)) (fun M7 g7 => ?_)
        dsimp only
        rw [show wq wi 7 = nI (ssum (wP wi)) from rfl, show wq wj 7 = nI (ssum (wP wj)) from rfl, if_pos ((neq (by omega) (by omega)).mpr (by omega)), if_pos ((nlt (by omega) (by omega)).mpr (by omega))]
        exact nx g7
    · rw [if_neg (fun z => hk ((nlt (by omega) (by omega)).mp z))]
      exact fin g1
/-- the counts -/
theorem il_9 {a : Abs} {v : Int32} {b : Abs} (hI : Inv a) : ∀ (n k : Nat) (M : Mem), k ≤ a.1.2.2.length → a.1.2.2.length - k < n → RelC M a → (∀ M', RelC M' a → Ans (f_L_isAll_125 (nI (thr a.1)) (nI (hmv a.1 0 a.1.2.2.length + 100 * hmv a.1 2 a.1.2.2.length + 10000 * hmv a.1 1 a.1.2.2.length)) (nI 1) M') v b) → Ans (f_L_isAll_9 n (nI (hmv a.1 0 k + hmv a.1 1 k + hmv a.1 2 k)) (nI (hmv a.1 0 k + 100 * hmv a.1 2 k + 10000 * hmv a.1 1 k)) (nI 1) (nI k) M) v b := by
  obtain ⟨hA, hW⟩ := hI
  have h8 := hA.1.2.2.1
  intro n
  induction n with
  | zero => intro k M _ h; omega
  | succ n ih =>
    intro k M h1 h2 hM kk
    rw [f_L_isAll_9]
    refine Ans.bind (c_count hA hM (q := 3) (by omega)) (fun M1 g1 => ?_)
    dsimp only
    rw [show cq a 3 = nI a.1.2.2.length from rfl]
    by_cases hk : k < a.1.2.2.length
    · have nx := fun M' hM' => ih (k + 1) M' (by omega) (by omega) hM' kk
      rw [if_pos ((nlt (by omega) (by omega)).mpr hk), if_neg (show ¬ nI 1 = nI 0 by decide)]
      cases ht : tw a.1 k with
      | none =>
        rw [hmv_no ht, hmv_no ht, hmv_no ht] at nx
        refine Ans.bind (c_wish0 (y := nI 0) (by omega) hA g1 ht) (fun M2 g2 => ?_)
        dsimp only
        rw [if_pos (show (-1 : Int32) < nI 0 by decide)]
        unfold f_L_isAll_38 f_L_isAll_51 f_L_isAll_97 f_L_isAll_113 f_L_isAll_118
        rw [if_pos rfl, if_pos rfl, if_pos rfl, nI_add, nI_add, nI_add, Nat.add_zero, Nat.add_zero]
        exact nx M2 g2
      | some w =>
        have hw := tw_ok hA.1 ht
        have hv := hw.1
        have a0 := hmv_le a.1 0 k
        have a1 := hmv_le a.1 1 k
        have a2 := hmv_le a.1 2 k
        rw [hmv_tw ht, hmv_tw ht, hmv_tw ht] at nx
        refine Ans.bind (c_wish hA g1 ht (q := 0) (by omega)) (fun M2 g2 => ?_)
        dsimp only
        rw [show wq w 0 = nI w.2.1 from rfl, if_neg (neg_n (show w.2.1 < 2147483648 by omega))]
        unfold f_L_isAll_38 f_L_isAll_51
        rw [if_neg (show ¬ nI 1 = nI 0 by decide), if_neg (show ¬ nI 1 = nI 0 by decide)]
        refine Ans.bind (c_wish hA g2 ht (q := 0) (by omega)) (fun M3 g3 => ?_)
        dsimp only
        rw [show wq w 0 = nI w.2.1 from rfl]
        have fin : ∀ (add : Nat) {M' : Mem}, RelC M' a → add = one (w.2.1 == 0) + 100 * one (w.2.1 == 2) + 10000 * one (w.2.1 == 1) → Ans (f_L_isAll_97 (f_L_isAll_9 n) (nI (hmv a.1 0 k + hmv a.1 1 k + hmv a.1 2 k) + nI 1) (nI k) (nI 1) (nI add) (nI (hmv a.1 0 k + 100 * hmv a.1 2 k + 10000 * hmv a.1 1 k)) M') v b := fun add M' g e => by
          unfold f_L_isAll_97 f_L_isAll_113 f_L_isAll_118
          rw [if_neg (show ¬ nI 1 = nI 0 by decide)]
          refine Ans.bind (isWish_ok hA g ht (hW w (tw_mem ht))) (fun M4 g4 => ?_)
          dsimp only
          rw [if_neg (show ¬ nI 1 = nI 0 by decide), nI_add, nI_add, nI_add]
          have n4 := nx M4 g4
          have e3 : one (w.2.1 == 0) + one (w.2.1 == 1) + one (w.2.1 == 2) = 1 := by
            rcases (show w.2.1 = 0 ∨ w.2.1 = 1 ∨ w.2.1 = 2 by omega) with z | z | z <;> rw [z] <;> rfl
          have f1 : hmv a.1 0 k + one (w.2.1 == 0) + (hmv a.1 1 k + one (w.2.1 == 1)) + (hmv a.1 2 k + one (w.2.1 == 2)) = hmv a.1 0 k + hmv a.1 1 k + hmv a.1 2 k + 1 := by omega
          have f2 : hmv a.1 0 k + one (w.2.1 == 0) + 100 * (hmv a.1 2 k + one (w.2.1 == 2)) + 10000 * (hmv a.1 1 k + one (w.2.1 == 1)) = hmv a.1 0 k + 100 * hmv a.1 2 k + 10000 * hmv a.1 1 k + add := by omega
          rw [f1, f2] at n4
          exact n4
        by_cases q2 : w.2.1 = 2
        · rw [q2, if_pos rfl]
          exact fin 100 g3 (by rw [q2]; rfl)
        · rw [if_neg (fun z => q2 ((neq (by omega) (by omega)).mp z))]
          refine Ans.bind (c_wish hA g3 ht (q := 0) (by omega)) (fun M5 g5 => ?_)
          dsimp only
          rw [show wq w 0 = nI w.2.1 from rfl]
          by_cases q1 : w.2.1 = 1
          · rw [q1, if_pos rfl]
            exact fin 10000 g5 (by rw [q1]; rfl)
          · rw [if_neg (fun z => q1 ((neq (by omega) (by omega)).mp z))]
            exact fin 1 g5 (by rw [show w.2.1 = 0 by omega]; rfl)
    · have : k = a.1.2.2.length := by omega
      subst this
      rw [if_neg (fun z => hk ((nlt (by omega) (by omega)).mp z))]
      exact kk M1 g1
theorem isAll_ok {M : Mem} {a : Abs} (hI : Inv a) (h : RelC M a) : Ans (f_L_isAll M) (nI 1) a := by
  have hA := hI.1
  have h8 := hA.1.2.2.1
  unfold f_L_isAll
  refine il_9 hI fuelN 0 M (Nat.zero_le _) (by unfold fuelN; omega) h (fun M1 g1 => ?_)
  unfold f_L_isAll_125
  rw [if_neg (show ¬ nI 1 = nI 0 by decide)]
  refine Ans.bind (c_count hA g1 (q := 2) (by omega)) (fun M2 g2 => ?_)
  dsimp only
  rw [show cq a 2 = nI (thr a.1) from rfl, if_pos rfl]
  refine Ans.bind (c_count hA g2 (q := 5) (by omega)) (fun M3 g3 => ?_)
  dsimp only
  refine Ans.bind (c_count hA g3 (q := 4) (by omega)) (fun M4 g4 => ?_)
  dsimp only
  refine Ans.bind (c_count hA g4 (q := 6) (by omega)) (fun M5 g5 => ?_)
  dsimp only
  rw [show cq a 5 = nI (hmv a.1 0 a.1.2.2.length) from rfl, show cq a 4 = nI (hmv a.1 2 a.1.2.2.length) from rfl, show cq a 6 = nI (hmv a.1 1 a.1.2.2.length) from rfl, nmul, nmul, nI_add, nI_add, if_pos rfl]
  refine Ans.bind (c_count hA g5 (q := 4) (by omega)) (fun M6 g6 => ?_)
  dsimp only
  rw [show cq a 4 = nI (hmv a.1 2 a.1.2.2.length) from rfl]
  refine Ans.bind (c_openN hA g6) (fun M7 g7 => ?_)
  dsimp only
  rw [if_pos rfl]
  unfold f_L_isAll_186
  have hm := hmv_le a.1 2 a.1.2.2.length
  exact ia_190 hA (fuelN - 1) 1 M7 (Nat.le_refl _) (by omega) (by unfold fuelN; omega) g7
