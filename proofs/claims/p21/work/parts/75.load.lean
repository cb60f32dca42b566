/-! Scribe.load -/
theorem codes_nd (k : Nat) (ts : List T) : codes (nd k ts) = (k + 32 * ts.length) :: (ts.map codes).flatten := tfold_nd _ _ _
theorem codes_len : ∀ t : T, (codes t).length = size t := by
  intro t
  induction t using T_ind with
  | h k ts ih =>
    rw [codes_nd, size_nd, List.length_cons, List.length_flatten, List.map_map]
    have : (ts.map (List.length ∘ codes)).sum = (ts.map size).sum := sum_eq_map _ size ts ih
    omega
theorem code_k {k n : Nat} (hk : k < 32) : nI (k + 32 * n) &&& nI 31 = nI k := by
  rw [nI_and]
  have := Nat.and_two_pow_sub_one_eq_mod (k + 32 * n) 5
  have e : (k + 32 * n) % 2 ^ 5 = k := by omega
  rw [e] at this
  exact congrArg nI this
theorem code_n {k n : Nat} (hk : k < 32) (hn : n < 10000) : nI (k + 32 * n) >>> (nI 5 &&& nI 31) = nI n := by
  rw [pk_shrN (by omega) (nI 5 &&& nI 31) 5 (by decide)]
  congr 1
  omega
theorem nadd_sub {a b c : Nat} (h : c ≤ a + b) : nI a + (nI b - nI c) = nI (a + b - c) := by
  rw [Int32.sub_eq_add_neg, ← Int32.add_assoc, nI_add, ← Int32.sub_eq_add_neg, nsub h]
/-- the codes of a form, from a place on -/
def CA (M : Mem) (c q : Nat) (l : List Nat) : Prop := ∀ j (h : j < l.length), M c (q + j) = nI l[j]
theorem CA.left {M : Mem} {c q : Nat} {a b : List Nat} (h : CA M c q (a ++ b)) : CA M c q a := fun j hj => by
  have := h j (by rw [List.length_append]; omega)
  rw [List.getElem_append_left hj] at this
  exact this
theorem CA.right {M : Mem} {c q : Nat} {a b : List Nat} (h : CA M c q (a ++ b)) : CA M c (q + a.length) b := fun j hj => by
  have := h (a.length + j) (by rw [List.length_append]; omega)
  rw [List.getElem_append_right (by omega)] at this
  rw [show q + a.length + j = q + (a.length + j) by omega, this]
  congr 2
  omega
theorem CA.congr {M M' : Mem} {c q : Nat} {l : List Nat} (h : CA M c q l) (hm : M' c = M c) : CA M' c q l := fun j hj => by rw [hm]; exact h j hj
theorem RW.left {M : Mem} {tb : List T} {a f : Nat} {ts us : List T} {r : Nat → Nat} (h : RW M tb a f (ts ++ us) r) : RW M tb a f ts r := fun j hj => by
  have := h j (by rw [List.length_append]; omega)
  rw [List.getElem_append_left hj] at this
  exact this
/-- the row of a stack: the node in the place of its forms -/
theorem RW.push {M M' : Mem} {tb tc : List T} {a f g id : Nat} {t : T} {ts L : List T} {r : Nat → Nat} (h : RW M tb a f (ts ++ L) r) (hg : g + 1 = f + ts.length) (hm : ∀ i, i ≠ g → M' a i = M a i) (hv : M' a g = nI id) (hid : id < 16 + (tb ++ tc).length) (hd : dn (tb ++ tc) id = t) : RW M' (tb ++ tc) a g (t :: L) (fun j => if j = 0 then id else r (ts.length + (j - 1))) := fun j hj => by
  by_cases h0 : j = 0
  · subst h0
    exact ⟨hid, hv, hd⟩
  · obtain ⟨e1, e2, e3⟩ := h (ts.length + (j - 1)) (by rw [List.length_append]; simp at hj; omega)
    simp only [h0, if_false]
    refine ⟨by rw [List.length_append]; omega, ?_, ?_⟩
    · rw [hm _ (by omega), ← e2]
      congr 1
      omega
    · rw [dn_app e1, e3, List.getElem_append_right (by omega)]
      obtain ⟨i, rfl⟩ : ∃ i, j = i + 1 := ⟨j - 1, by omega⟩
      simp only [List.getElem_cons_succ]
      congr 1
      omega
def LD (U : List T) (x1 p : Nat) (ts : List T) : Prop := ∀ (q n : Nat) (L tb : List T) (M : Mem) (r : Nat → Nat), FT M tb → RW M tb 18 (120 - L.length) L r → L.length + q + (ts.map size).sum ≤ 120 → CA M (x1 + 2) (p * 120 + q) (ts.map codes).flatten → (∀ x ∈ tb, x ∈ U) →
    ∃ (M' : Mem) (tc : List T) (r' : Nat → Nat), f_X3_load_13 (n + (ts.map size).sum) x1 (nI p) (nI (120 - L.length)) (nI (q + (ts.map size).sum) - nI 1) M = f_X3_load_13 n x1 (nI p) (nI (120 - (ts ++ L).length)) (nI q - nI 1) M' ∧ FT M' (tb ++ tc) ∧ RW M' (tb ++ tc) 18 (120 - (ts ++ L).length) (ts ++ L) r' ∧ (∀ x ∈ tc, ∃ t ∈ ts, x ∈ subl t) ∧ ∀ c, c = 0 ∨ (13 ≤ c ∧ c ≠ 18) → M' c = M c
theorem LD_all {U : List T} {x1 p : Nat} (hx : 20 ≤ x1) (hU : UB U) : ∀ ts : List T, (∀ t ∈ ts, LD U x1 p [t]) → (∀ t ∈ ts, ∀ x ∈ subl t, x ∈ U) → LD U x1 p ts := by
  intro ts
  induction ts with
  | nil =>
    intro _ _ q n L tb M r h1 h2 h3 h4 h5
    exact ⟨M, [], r, rfl, by rw [List.append_nil]; exact h1, by rw [List.append_nil]; exact h2, (fun _ h => by cases h), fun _ _ => rfl⟩
  | cons t ts ih =>
    intro hT hS q n L tb M r h1 h2 h3 h4 h5
    simp only [List.map_cons, List.sum_cons, List.flatten_cons] at h3 h4 ⊢
    have hcl := codes_len t
    have r4 := h4.right
    rw [hcl, Nat.add_assoc] at r4
    obtain ⟨M1, tc1, r1, e1, f1, w1, s1, o1⟩ := ih (fun u hu => hT u (List.mem_cons_of_mem _ hu)) (fun u hu => hS u (List.mem_cons_of_mem _ hu)) (q + size t) (n + size t) L tb M r h1 h2 (by omega) r4 h5
    have hlen : (ts ++ L).length ≤ L.length + (ts.map size).sum := by
      have := len_le_size ts
      rw [List.length_append]; omega
    obtain ⟨M2, tc2, r2, e2, f2, w2, s2, o2⟩ := hT t List.mem_cons_self q n (ts ++ L) (tb ++ tc1) M1 r1 f1 w1 (by simp; simp at hlen; omega) (by
      simp only [List.map_cons, List.map_nil, List.flatten_cons, List.flatten_nil, List.append_nil]
      exact (h4.left).congr (o1 _ (by omega))) (fun x hx => by
        rcases List.mem_append.mp hx with hx | hx
        · exact h5 x hx
        · obtain ⟨u, hu, hx⟩ := s1 x hx
          exact hS u (List.mem_cons_of_mem _ hu) x hx)
    simp only [List.map_cons, List.map_nil, List.sum_cons, List.sum_nil, Nat.add_zero] at e2
    refine ⟨M2, tc1 ++ tc2, r2, ?_, by rw [← List.append_assoc]; exact f2, by rw [← List.append_assoc]; exact w2, fun x hx => ?_, fun c hc => by rw [o2 c hc, o1 c hc]⟩
    · rw [show n + (size t + (ts.map size).sum) = n + size t + (ts.map size).sum by omega, show q + (size t + (ts.map size).sum) = q + size t + (ts.map size).sum by omega, e1, e2]
      rfl
    · rcases List.mem_append.mp hx with hx | hx
      · obtain ⟨u, hu, hx⟩ := s1 x hx
        exact ⟨u, List.mem_cons_of_mem _ hu, hx⟩
      · obtain ⟨u, hu, hx⟩ := s2 x hx
        exact ⟨t, List.mem_cons_self, by rw [List.mem_singleton.mp hu] at hx; exact hx⟩
theorem LD_one {U : List T} {x1 p : Nat} (hx : 20 ≤ x1) (hp : p < 8) (hU : UB U) : ∀ t : T, AR t = true → (∀ x ∈ subl t, x ∈ U) → LD U x1 p [t] := by
  intro t
  induction t using T_ind with
  | h k ts ih =>
    intro hA hS q n L tb M r h1 h2 h3 h4 h5
    have hk21 := AR_le hA
    rw [kind_nd] at hk21
    have hAk := ((AR_nd _ _).mp hA).2
    have hkid : ∀ t ∈ ts, ∀ x ∈ subl t, x ∈ U := fun t ht x hx => hS x (subl_of_kid (by rw [kids_nd]; exact ht) hx)
    have hF := LD_all hx hU ts (fun t ht => ih t ht (hAk t ht) (hkid t ht)) hkid
    have hlen := len_le_size ts
    simp only [List.map_cons, List.map_nil, List.sum_cons, List.sum_nil, Nat.add_zero, List.flatten_cons, List.flatten_nil, List.append_nil, size_nd, codes_nd] at h3 h4 ⊢
    have r4 : CA M (x1 + 2) (p * 120 + (q + 1)) (ts.map codes).flatten := CA.right (a := [k + 32 * ts.length]) h4
    have c4 : M (x1 + 2) (p * 120 + q) = nI (k + 32 * ts.length) := h4 0 (by simp)
    obtain ⟨M1, tc1, r1, e1, f1, w1, s1, o1⟩ := hF (q + 1) (n + 1) L tb M r h1 h2 (by omega) r4 h5
    rw [show n + (1 + (ts.map size).sum) = n + 1 + (ts.map size).sum by omega, show q + (1 + (ts.map size).sum) = q + 1 + (ts.map size).sum by omega, e1, f_X3_load_13]
    have hql : (ts ++ L).length = ts.length + L.length := List.length_append
    have hm1 : M1 (x1 + 2) (p * 120 + q) = nI (k + 32 * ts.length) := by rw [o1 _ (by omega)]; exact c4
    have hpq : p * 120 + q < 960 := by omega
    rw [nsub (show 1 ≤ q + 1 by omega), Nat.add_sub_cancel]
    simp (disch := omega) only [neg_n, if_false, nmul, nI_add, mrd_n, Option.bind_some, hm1, code_n, code_k, nlt]
    have hl12 : 120 - (L.length + 1) < 120 := by omega
    have t1 : ∀ y ∈ tb ++ tc1, y ∈ U := fun y hy => by
      rcases List.mem_append.mp hy with hy | hy
      · exact h5 y hy
      · obtain ⟨u, hu, hy⟩ := s1 y hy
        exact hkid u hu y hy
    -- the end of the step
    have fin : ∀ (id : Nat) (M2 : Mem) (tc2 : List T), FT M2 (tb ++ tc1 ++ tc2) → M2 18 = M1 18 → id < 16 + (tb ++ tc1 ++ tc2).length → dn (tb ++ tc1 ++ tc2) id = nd k ts → (∀ x ∈ tc2, x ∈ subl (nd k ts)) → (∀ c, c = 0 ∨ 13 ≤ c → M2 c = M1 c) →
        ∃ (M' : Mem) (tc : List T) (r' : Nat → Nat), f_X3_load_68 (f_X3_load_13 n) x1 (nI p) (nI (120 - (ts ++ L).length)) (nI q) (nI ts.length) (nI id) M2 = f_X3_load_13 n x1 (nI p) (nI (120 - ([nd k ts] ++ L).length)) (nI q - nI 1) M' ∧ FT M' (tb ++ tc) ∧ RW M' (tb ++ tc) 18 (120 - ([nd k ts] ++ L).length) ([nd k ts] ++ L) r' ∧ (∀ x ∈ tc, ∃ t ∈ [nd k ts], x ∈ subl t) ∧ ∀ c, c = 0 ∨ (13 ≤ c ∧ c ≠ 18) → M' c = M c := by
      intro id M2 tc2 g1 g2 g3 g4 g5 g6
      unfold f_X3_load_68 f_X3_load_85
      rw [nadd_sub (by omega)]
      have e120 : 120 - (ts ++ L).length + ts.length - 1 = 120 - (L.length + 1) := by omega
      rw [e120]
      simp (disch := omega) only [neg_n, if_false, nlt, hl12, if_true, mst_n, Option.bind_some]
      have hw := RW.push (M' := mwr M2 18 (120 - (L.length + 1)) (nI id)) (tc := tc2) (g := 120 - (L.length + 1)) w1 (by omega) (fun i hi => by rw [mwr_in _ hi, g2]) (mwr_at _ _ _ _) g3 g4
      refine ⟨mwr M2 18 (120 - (L.length + 1)) (nI id), tc1 ++ tc2, _, rfl, by rw [← List.append_assoc]; exact g1.congr (fun c _ _ => mwr_ne _ _ _ (by omega)), by rw [← List.append_assoc]; exact hw, fun x hx => ⟨_, List.mem_singleton_self _, ?_⟩, fun c hc => by rw [mwr_ne _ _ _ (by omega), g6 c (by omega), o1 c hc]⟩
      rcases List.mem_append.mp hx with hx | hx
      · obtain ⟨u, hu, hx⟩ := s1 x hx
        exact subl_of_kid (by rw [kids_nd]; exact hu) hx
      · exact g5 x hx
    by_cases hn : 0 < ts.length
    · have hk16 : 16 ≤ k := by
        rcases Nat.lt_or_ge k 16 with q | q
        · have := ((AR_nd _ _).mp hA).1
          unfold arity at this
          rw [if_pos q] at this
          simp at this
          rw [this] at hn
          simp at hn
        · exact q
      rw [if_pos hn]
      have hr18 : rlen 18 = 120 := rfl
      obtain ⟨id, M2, tc2, e2, f2, i2, d2, l2, o2⟩ := make_ok f1 (a := 18) (f := 120 - (ts ++ L).length) hk16 hA (fun hnew => by
        have := UB_cap hU f1.1.1 t1 (hS _ (subl_self _)) hnew
        rw [nkid_nd] at this
        exact this) (by omega) (by rw [hr18]; omega) w1.left
      rw [e2, Option.bind_some]
      refine fin id M2 tc2 f2 (o2 18 (by omega)) i2 d2 (fun x hx => ?_) o2
      rcases l2 with ⟨rfl, -⟩ | ⟨rfl, -⟩
      · cases hx
      · rw [List.mem_singleton.mp hx]; exact subl_self _
    · have hts : ts = [] := List.length_eq_zero_iff.mp (by omega)
      have hk16 : k < 16 := by
        have := ((AR_nd _ _).mp hA).1
        unfold arity at this
        rw [hts] at this
        by_cases q : k < 16
        · exact q
        · rw [if_neg q] at this
          split at this
          · simp at this
          · split at this
            · simp at this
            · simp at this
      rw [if_neg hn]
      have hc0 : nI (k + 32 * ts.length) = nI k := by rw [hts]; rfl
      rw [hc0]
      exact fin k M1 [] (by rw [List.append_nil]; exact f1) rfl (by omega) (by rw [dn_lf hk16, hts]; rfl) (fun x hx => by cases hx) (fun _ _ => rfl)
/-- a part of a wish, in the class -/
def CP (M : Mem) (cw p : Nat) (t : T) : Prop := M (cw + 1) p = nI (size t) ∧ CA M (cw + 2) (p * 120) (codes t)
theorem load_ok {U : List T} {M : Mem} {tb : List T} {x1 p : Nat} {t : T} (hx : 20 ≤ x1) (hp : p < 8) (hU : UB U) (h : FT M tb) (hA : AR t = true) (hs : size t ≤ 120) (hS : ∀ x ∈ subl t, x ∈ U) (ht : ∀ x ∈ tb, x ∈ U) (hc : CP M x1 p t) :
    ∃ (id : Nat) (M' : Mem) (tc : List T), f_X3_load x1 (nI p) M = some (nI id, M') ∧ FT M' (tb ++ tc) ∧ id < 16 + (tb ++ tc).length ∧ dn (tb ++ tc) id = t ∧ (∀ x ∈ tc, x ∈ subl t) ∧ ∀ c, c = 0 ∨ (13 ≤ c ∧ c ≠ 18) → M' c = M c := by
  unfold f_X3_load
  simp (disch := omega) only [mrd_n, Option.bind_some, hc.1]
  obtain ⟨M1, tc, r, e1, f1, w1, s1, o1⟩ := LD_one hx hp hU t hA hS 0 (fuelN - size t) [] tb M (fun _ => 0) h (fun j hj => by simp at hj) (by simpa using hs) (by
    simp only [List.map_cons, List.map_nil, List.flatten_cons, List.flatten_nil, List.append_nil, Nat.add_zero]
    exact hc.2) ht
  simp only [List.map_cons, List.map_nil, List.sum_cons, List.sum_nil, Nat.add_zero, Nat.zero_add, List.length_nil, Nat.sub_zero] at e1
  rw [show fuelN - size t + size t = fuelN by unfold fuelN; omega] at e1
  rw [e1]
  obtain ⟨m, hm⟩ : ∃ m, fuelN - size t = m + 1 := ⟨fuelN - size t - 1, by unfold fuelN; omega⟩
  obtain ⟨w2, w3, w4⟩ := w1 0 (by simp)
  have w3' : M1 18 119 = nI (r 0) := w3
  rw [hm, f_X3_load_13]
  unfold f_X3_load_117
  rw [if_pos (by decide)]
  have e119 : 120 - ([t] ++ ([] : List T)).length = 119 := rfl
  rw [e119]
  simp (disch := omega) only [nlt, show 119 < 120 by omega, if_true, mrd_n, Option.bind_some, w3']
  refine ⟨r 0, M1, tc, rfl, f1, w2, w4, fun x hx => ?_, o1⟩
  obtain ⟨u, hu, hx⟩ := s1 x hx
  rw [List.mem_singleton.mp hu] at hx
  exact hx
