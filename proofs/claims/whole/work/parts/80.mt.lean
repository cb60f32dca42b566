/-! THE MODEL's TABLE OF FORMS -/
def lw (t : T) : Nat := if 20 ≤ kind t then nkid t else 0
def lsum (tb : List T) (i : Nat) : Nat := ((tb.take i).map lw).sum
def ndP (M : Mem) (tb : List T) (id : Nat) (t : T) : Prop := ∃ a b, a < id ∧ b < id ∧ M 223 id = nI a ∧ M 224 id = nI b ∧ kids t = prs (kind t) (dn tb a) (dn tb b) ∧ (kind t < 18 → b = 0)
def ndL (M : Mem) (tb : List T) (id s : Nat) (t : T) : Prop := M 223 id = nI s ∧ M 224 id = nI (nkid t) ∧ ∃ r : Nat → Nat, ∀ j (hj : j < nkid t), r j < id ∧ M 229 (s + j) = nI (r j) ∧ dn tb (r j) = (kids t)[j]
def MT (M : Mem) (tb : List T) : Prop :=
  okT tb ∧ tb.length ≤ 7900 ∧ lsum tb tb.length ≤ 80000 ∧ M 218 11 = nI (16 + tb.length) ∧ M 218 12 = nI (lsum tb tb.length) ∧
  (∀ id, id < 16 + tb.length → M 222 id = nI (kind (dn tb id) - 15) ∧ M 225 id = nI (size (dn tb id)) ∧ M 226 id = nI (wid (dn tb id)) ∧ (id < 16 → True)) ∧
  (∀ i (h : i < tb.length), (kind tb[i] < 20 → ndP M tb (16 + i) tb[i]) ∧ (20 ≤ kind tb[i] → ndL M tb (16 + i) (lsum tb i) tb[i]))
theorem MT.congr {M M' : Mem} {tb : List T} (h : MT M tb) (h1 : ∀ c, 222 ≤ c → c ≤ 226 → M' c = M c) (h2 : M' 229 = M 229) (h3 : M' 218 11 = M 218 11) (h4 : M' 218 12 = M 218 12) : MT M' tb := by
  obtain ⟨a, b, c, d, e, f, g⟩ := h
  refine ⟨a, b, c, by rw [h3]; exact d, by rw [h4]; exact e, fun id hid => ?_, fun i hi => ⟨fun hk => ?_, fun hk => ?_⟩⟩
  · rw [h1 222 (by omega) (by omega), h1 225 (by omega) (by omega), h1 226 (by omega) (by omega)]
    exact f id hid
  · obtain ⟨x, y, q⟩ := (g i hi).1 hk
    refine ⟨x, y, ?_⟩
    rw [h1 223 (by omega) (by omega), h1 224 (by omega) (by omega)]
    exact q
  · obtain ⟨x, y, r, q⟩ := (g i hi).2 hk
    refine ⟨?_, ?_, r, ?_⟩
    · rw [h1 223 (by omega) (by omega)]; exact x
    · rw [h1 224 (by omega) (by omega)]; exact y
    · rw [h2]; exact q
theorem lsum_app {tb tc : List T} {i : Nat} (h : i ≤ tb.length) : lsum (tb ++ tc) i = lsum tb i := by
  unfold lsum
  rw [List.take_append_of_le_length h]
theorem lsum_succ {tb : List T} {i : Nat} (h : i < tb.length) : lsum tb (i + 1) = lsum tb i + lw tb[i] := by
  unfold lsum
  rw [List.take_succ_eq_append_getElem h, List.map_append, List.sum_append]
  simp only [List.map_cons, List.map_nil, List.sum_cons, List.sum_nil, Nat.add_zero]
theorem lsum_mono {tb : List T} {i j : Nat} (h : i ≤ j) : lsum tb i ≤ lsum tb j := by
  unfold lsum
  have : tb.take i = (tb.take j).take i := by rw [List.take_take, Nat.min_eq_left h]
  rw [this]
  generalize tb.take j = l
  rw [List.map_take]
  generalize l.map lw = l
  conv => rhs; rw [← List.take_append_drop i l]
  rw [List.sum_append]
  omega
theorem lsum_snoc (tb : List T) (t : T) : lsum (tb ++ [t]) (tb ++ [t]).length = lsum tb tb.length + lw t := by
  unfold lsum
  rw [List.take_length, List.take_length, List.map_append, List.sum_append]
  simp only [List.map_cons, List.map_nil, List.sum_cons, List.sum_nil, Nat.add_zero]
theorem lsum_le (tb : List T) : lsum tb tb.length ≤ stof tb tb.length := by
  unfold lsum stof
  rw [List.take_length]
  exact sum_le_map _ _ tb (fun t _ => by unfold lw; split <;> omega)
theorem MT_node {M : Mem} {tb : List T} (h : MT M tb) {id : Nat} (h1 : 16 ≤ id) (h2 : id < 16 + tb.length) : (kind (dn tb id) < 20 → ndP M tb id (dn tb id)) ∧ (20 ≤ kind (dn tb id) → ∃ s, s + nkid (dn tb id) ≤ 80000 ∧ ndL M tb id s (dn tb id)) := by
  obtain ⟨i, rfl⟩ : ∃ i, id = 16 + i := ⟨id - 16, by omega⟩
  have hi : i < tb.length := by omega
  have g := h.2.2.2.2.2.2 i hi
  rw [dn_nd hi]
  refine ⟨g.1, fun hk => ⟨_, ?_, g.2 hk⟩⟩
  have h3 := lsum_succ hi
  have h4 := lsum_mono (tb := tb) (i := i + 1) (j := tb.length) (by omega)
  have h5 := h.2.2.1
  have h6 : lw tb[i] = nkid tb[i] := if_pos hk
  omega
theorem MT_AR {M : Mem} {tb : List T} (h : MT M tb) {id : Nat} (hid : id < 16 + tb.length) : AR (dn tb id) = true := dn_AR h.1 hid
theorem nk_lf {tb : List T} {id : Nat} (h : id < 16) : nkid (dn tb id) = 0 := by
  rw [dn_lf h]
  show (kids (lf id)).length = 0
  rw [kids_lf]
  rfl
theorem nk_P {k : Nat} {a b : T} {t : T} (hk : kids t = prs k a b) : nkid t = if k < 18 then 1 else 2 := by
  show (kids t).length = _
  rw [hk, prs_len]
theorem childMany_ok {M : Mem} {tb : List T} (h : MT M tb) {id : Nat} (hid : id < 16 + tb.length) : f_X7_childMany (nI id) M = some (nI (nkid (dn tb id)), M) := by
  have hl := h.2.1
  unfold f_X7_childMany f_X7_childMany_44
  rcases Nat.lt_or_ge id 16 with e | e
  · simp (disch := omega) only [nlt, e, if_true, nk_lf e]
  · have hk := (dn_kind h.1 hid).2 e
    have hk2 := AR_le (MT_AR h hid)
    have a := (h.2.2.2.2.2.1 id hid).1
    simp (disch := omega) only [nlt, show ¬ id < 16 by omega, if_false, mrd_n, Option.bind_some, a]
    obtain ⟨n1, n2⟩ := MT_node h e hid
    by_cases k18 : kind (dn tb id) < 18
    · obtain ⟨x, y, -, -, -, -, q, -⟩ := n1 (by omega)
      rw [if_pos (show kind (dn tb id) - 15 < 3 by omega), nk_P q, if_pos k18]
    · rw [if_neg (show ¬ kind (dn tb id) - 15 < 3 by omega)]
      by_cases k20 : kind (dn tb id) < 20
      · obtain ⟨x, y, -, -, -, -, q, -⟩ := n1 k20
        rw [if_pos (show kind (dn tb id) - 15 < 5 by omega), nk_P q, if_neg k18]
      · obtain ⟨s, -, -, q, -⟩ := n2 (by omega)
        rw [if_neg (show ¬ kind (dn tb id) - 15 < 5 by omega), q]
theorem child_ok {M : Mem} {tb : List T} (h : MT M tb) {id j : Nat} (hid : id < 16 + tb.length) (hj : j < nkid (dn tb id)) : ∃ k, k < id ∧ f_X7_child (nI id) (nI j) M = some (nI k, M) ∧ dn tb k = (kids (dn tb id))[j] := by
  have hl := h.2.1
  have e : 16 ≤ id := by
    rcases Nat.lt_or_ge id 16 with e | e
    · rw [nk_lf e] at hj; omega
    · exact e
  have hk := (dn_kind h.1 hid).2 e
  have hk2 := AR_le (MT_AR h hid)
  have a := (h.2.2.2.2.2.1 id hid).1
  obtain ⟨n1, n2⟩ := MT_node h e hid
  unfold f_X7_child f_X7_child_45
  simp (disch := omega) only [mrd_n, Option.bind_some, a, nlt]
  by_cases k20 : kind (dn tb id) < 20
  · obtain ⟨x, y, hx, hy, q1, q2, q, -⟩ := n1 k20
    rw [if_pos (show kind (dn tb id) - 15 < 5 by omega)]
    have hnk := nk_P q
    have hget := prs_get (kind (dn tb id)) (dn tb x) (dn tb y) j (by rw [← q]; exact hj)
    have hj2 : j < 2 := by rw [hnk] at hj; split at hj <;> omega
    by_cases h0 : j = 0
    · subst h0
      refine ⟨x, hx, ?_, ?_⟩
      · simp (disch := omega) only [neq, if_true, Option.bind_some, mrd_n, q1]
      · simp only [q]
        rw [hget]
        rfl
    · refine ⟨y, hy, ?_, ?_⟩
      · simp (disch := omega) only [neq, h0, if_false, Option.bind_some, mrd_n, q2]
      · simp only [q]
        rw [hget, if_neg h0]
  · obtain ⟨s, hs, q1, -, r, q⟩ := n2 (by omega)
    obtain ⟨r1, r2, r3⟩ := q j hj
    rw [if_neg (show ¬ kind (dn tb id) - 15 < 5 by omega)]
    refine ⟨r j, r1, ?_, r3⟩
    simp (disch := omega) only [mrd_n, Option.bind_some, q1, nI_add, r2]
/-- a table with one node more -/
theorem MT_snoc {M M' : Mem} {tb : List T} {t : T} (h : MT M tb) (hA : AR t = true) (hk : 16 ≤ kind t) (hnew : t ∉ tb) (hc1 : tb.length < 7900) (hc2 : lsum tb tb.length + lw t ≤ 80000)
    (h11 : M' 218 11 = nI (16 + tb.length + 1)) (h12 : M' 218 12 = nI (lsum tb tb.length + lw t)) (hold : ∀ c, 222 ≤ c → c ≤ 226 → ∀ i, i < 16 + tb.length → M' c i = M c i) (hlst : ∀ i, i < lsum tb tb.length → M' 229 i = M 229 i)
    (e1 : M' 222 (16 + tb.length) = nI (kind t - 15)) (e2 : M' 225 (16 + tb.length) = nI (size t)) (e3 : M' 226 (16 + tb.length) = nI (wid t)) (e4 : kind t < 20 → ndP M' tb (16 + tb.length) t) (e5 : 20 ≤ kind t → ndL M' tb (16 + tb.length) (lsum tb tb.length) t) : MT M' (tb ++ [t]) := by
  obtain ⟨a, b, c, d, e, f, g⟩ := h
  have hlen : (tb ++ [t]).length = tb.length + 1 := by simp
  refine ⟨⟨?_, ?_⟩, by omega, by rw [lsum_snoc]; exact hc2, by rw [hlen]; exact h11, by rw [lsum_snoc]; exact h12, fun id hid => ?_, fun i hi => ?_⟩
  · rw [List.nodup_append]
    refine ⟨a.1, by simp, fun x hx y hy => ?_⟩
    rw [List.mem_singleton.mp hy]
    exact fun q => hnew (q ▸ hx)
  · intro x hx
    rcases List.mem_append.mp hx with hx | hx
    · exact a.2 x hx
    · rw [List.mem_singleton.mp hx]; exact ⟨hA, hk⟩
  · rw [hlen] at hid
    by_cases hq : id < 16 + tb.length
    · rw [dn_snoc hq, hold 222 (by omega) (by omega) id hq, hold 225 (by omega) (by omega) id hq, hold 226 (by omega) (by omega) id hq]
      exact f id hq
    · have : id = 16 + tb.length := by omega
      subst this
      rw [dn_last]
      exact ⟨e1, e2, e3, fun _ => trivial⟩
  · rw [hlen] at hi
    by_cases hq : i < tb.length
    · rw [List.getElem_append_left hq, lsum_app (by omega)]
      have h3 := lsum_succ hq
      have h4 := lsum_mono (tb := tb) (i := i + 1) (j := tb.length) (by omega)
      refine ⟨fun hk => ?_, fun hk => ?_⟩
      · obtain ⟨x, y, q1, q2, q3, q4, q5, q6⟩ := (g i hq).1 hk
        exact ⟨x, y, q1, q2, by rw [hold 223 (by omega) (by omega) _ (by omega)]; exact q3, by rw [hold 224 (by omega) (by omega) _ (by omega)]; exact q4, by rw [dn_snoc (by omega), dn_snoc (by omega)]; exact q5, q6⟩
      · obtain ⟨q3, q4, r, q⟩ := (g i hq).2 hk
        refine ⟨by rw [hold 223 (by omega) (by omega) _ (by omega)]; exact q3, by rw [hold 224 (by omega) (by omega) _ (by omega)]; exact q4, r, fun j hj => ?_⟩
        obtain ⟨p1, p2, p3⟩ := q j hj
        have h6 : lw tb[i] = nkid tb[i] := if_pos hk
        have hj' : j < nkid tb[i] := hj
        exact ⟨p1, by rw [hlst _ (by omega)]; exact p2, by rw [dn_snoc (by omega)]; exact p3⟩
    · have : i = tb.length := by omega
      subst this
      rw [List.getElem_concat_length (by rfl), lsum_app (Nat.le_refl _)]
      refine ⟨fun hk => ?_, fun hk => ?_⟩
      · obtain ⟨x, y, q1, q2, q3, q4, q5, q6⟩ := e4 hk
        exact ⟨x, y, q1, q2, q3, q4, by rw [dn_snoc (by omega), dn_snoc (by omega)]; exact q5, q6⟩
      · obtain ⟨q3, q4, r, q⟩ := e5 hk
        refine ⟨q3, q4, r, fun j hj => ?_⟩
        obtain ⟨p1, p2, p3⟩ := q j hj
        exact ⟨p1, p2, by rw [dn_snoc (by omega)]; exact p3⟩
/-- what a making leaves as it was -/
def FMk (M M' : Mem) : Prop := (∀ c, c = 219 ∨ c = 220 ∨ c = 221 ∨ c = 227 ∨ c = 228 ∨ 230 ≤ c → M' c = M c) ∧ ∀ i, 13 ≤ i → M' 218 i = M 218 i
theorem FMk.rfl' (M : Mem) : FMk M M := ⟨fun _ _ => rfl, fun _ _ => rfl⟩
theorem FMk.tr {A B C : Mem} (h : FMk A B) (g : FMk B C) : FMk A C := ⟨fun c hc => by rw [g.1 c hc, h.1 c hc], fun i hi => by rw [g.2 i hi, h.2 i hi]⟩
theorem mmake_4 {M : Mem} {tb : List T} (h : MT M tb) {k a b : Nat} {t : T} (hk1 : 16 ≤ k) (hk2 : k ≤ 19) (ha : a < 16 + tb.length) (hb : b < 16 + tb.length) (hb0 : k < 18 → b = 0) (ht : t = nd k (prs k (dn tb a) (dn tb b))) :
    ∀ (n x : Nat), 16 ≤ x → x ≤ 16 + tb.length → 16 + tb.length - x < n → (∀ i (hi : i < tb.length), 16 + i < x → tb[i] ≠ t) →
    (∃ id, id < 16 + tb.length ∧ dn tb id = t ∧ f_X7_make_4 n (nI (k - 15)) (nI a) (nI b) (nI x) M = some (nI id, M)) ∨ (t ∉ tb ∧ f_X7_make_4 n (nI (k - 15)) (nI a) (nI b) (nI x) M = f_X7_make_4 1 (nI (k - 15)) (nI a) (nI b) (nI (16 + tb.length)) M) := by
  have hl := h.2.1
  intro n
  induction n with
  | zero => intro x _ _ h3; omega
  | succ n ih =>
    intro x h1 h2 h3 h4
    by_cases hx : x < 16 + tb.length
    · rw [f_X7_make_4]
      unfold f_X7_make_49
      have hi : x - 16 < tb.length := by omega
      have hxd : dn tb x = tb[x - 16] := by
        have := dn_nd (tb := tb) hi
        rwa [show 16 + (x - 16) = x by omega] at this
      have hkx := (dn_kind h.1 hx).2 h1
      have hkx2 := AR_le (MT_AR h hx)
      have a1 := (h.2.2.2.2.2.1 x hx).1
      obtain ⟨n1, n2⟩ := MT_node h h1 hx
      have nxt : dn tb x ≠ t → (∃ id, id < 16 + tb.length ∧ dn tb id = t ∧ f_X7_make_4 n (nI (k - 15)) (nI a) (nI b) (nI (x + 1)) M = some (nI id, M)) ∨ (t ∉ tb ∧ f_X7_make_4 n (nI (k - 15)) (nI a) (nI b) (nI (x + 1)) M = f_X7_make_4 1 (nI (k - 15)) (nI a) (nI b) (nI (16 + tb.length)) M) := fun hne => by
        clear n1 n2
        refine ih (x + 1) (by omega) (by omega) (by omega) (fun i hi2 hlt => ?_)
        by_cases q : 16 + i < x
        · exact h4 i hi2 q
        · have : i = x - 16 := by omega
          subst this
          rw [← hxd]
          exact hne
      simp (disch := omega) only [h.2.2.2.1, nlt, hx, if_true, mrd_n, Option.bind_some, a1, neq, nI_add]
      by_cases q1 : kind (dn tb x) - 15 = k - 15
      · rw [if_pos q1]
        have q1' : kind (dn tb x) = k := by omega
        obtain ⟨u, v, hu, hv, e1, e2, e3, e4⟩ := n1 (by omega)
        simp (disch := omega) only [e1, e2, neq]
        by_cases q2 : u = a
        · rw [if_pos q2]
          by_cases q3 : v = b
          · rw [if_pos q3]
            refine Or.inl ⟨x, hx, ?_, rfl⟩
            rw [ht]
            refine T_ext (by rw [kind_nd, q1']) ?_
            rw [kids_nd, e3, q1', q2, q3]
          · rw [if_neg q3]
            refine nxt (fun e => q3 ?_)
            by_cases k18 : k < 18
            · rw [hb0 k18, e4 (by omega)]
            · have := congrArg kids e
              rw [ht, kids_nd, e3, q1'] at this
              unfold prs at this
              rw [if_neg k18, if_neg k18] at this
              exact dn_inj h.1 (by omega) hb (List.cons.inj (List.cons.inj this).2).1
        · rw [if_neg q2]
          refine nxt (fun e => q2 ?_)
          have := congrArg kids e
          rw [ht, kids_nd, e3, q1'] at this
          unfold prs at this
          by_cases k18 : k < 18
          · rw [if_pos k18, if_pos k18] at this
            exact dn_inj h.1 (by omega) ha (List.cons.inj this).1
          · rw [if_neg k18, if_neg k18] at this
            exact dn_inj h.1 (by omega) ha (List.cons.inj this).1
      · rw [if_neg q1]
        refine nxt (fun e => q1 ?_)
        rw [e, ht, kind_nd]
    · have : x = 16 + tb.length := by omega
      subst this
      refine Or.inr ⟨fun hm => ?_, ?_⟩
      · obtain ⟨i, hi, e⟩ := List.getElem_of_mem hm
        exact h4 i hi (by omega) e
      · rw [f_X7_make_4]
        conv => rhs; rw [f_X7_make_4]
        simp (disch := omega) only [h.2.2.2.1, nlt, Nat.lt_irrefl, if_false]
theorem mmake_ok {M : Mem} {tb : List T} (h : MT M tb) {k a b : Nat} (hk1 : 16 ≤ k) (hk2 : k ≤ 19) (ha : a < 16 + tb.length) (hb : b < 16 + tb.length) (hb0 : k < 18 → b = 0) (hcap : nd k (prs k (dn tb a) (dn tb b)) ∉ tb → tb.length < 7900) :
    ∃ (id : Nat) (M' : Mem) (tc : List T), f_X7_make (nI (k - 15)) (nI a) (nI b) M = some (nI id, M') ∧ MT M' (tb ++ tc) ∧ id < 16 + (tb ++ tc).length ∧ dn (tb ++ tc) id = nd k (prs k (dn tb a) (dn tb b)) ∧ (tc = [] ∨ (tc = [nd k (prs k (dn tb a) (dn tb b))] ∧ nd k (prs k (dn tb a) (dn tb b)) ∉ tb)) ∧ FMk M M' ∧ M' 229 = M 229 := by
  have hl := h.2.1
  have hA : AR (nd k (prs k (dn tb a) (dn tb b))) = true := prs_AR hk1 hk2 (MT_AR h ha) (MT_AR h hb)
  have hsz : size (nd k (prs k (dn tb a) (dn tb b))) = 1 + (if k < 18 then size (dn tb a) else size (dn tb a) + size (dn tb b)) := by
    rw [size_nd]
    unfold prs
    split <;> simp
  have hwd : wid (nd k (prs k (dn tb a) (dn tb b))) = if k < 18 then 1 + wid (dn tb a) else 3 + wid (dn tb a) + wid (dn tb b) := by
    rw [wid_nd, if_neg (by omega), if_neg (by omega)]
    unfold prs
    split
    · simp
    · simp; omega
  have hki : kids (nd k (prs k (dn tb a) (dn tb b))) = prs (kind (nd k (prs k (dn tb a) (dn tb b)))) (dn tb a) (dn tb b) := by rw [kids_nd, kind_nd]
  have hkk : kind (nd k (prs k (dn tb a) (dn tb b))) = k := kind_nd _ _
  generalize ht : nd k (prs k (dn tb a) (dn tb b)) = t at *
  rcases mmake_4 h hk1 hk2 ha hb hb0 ht.symm fuelN 16 (Nat.le_refl _) (by omega) (by unfold fuelN; omega) (fun i _ hi => by omega) with ⟨id, i1, i2, i3⟩ | ⟨hnew, e⟩
  · exact ⟨id, M, [], i3, by rw [List.append_nil]; exact h, by rw [List.append_nil]; exact i1, by rw [List.append_nil]; exact i2, Or.inl rfl, FMk.rfl' M, rfl⟩
  · have hc1 := hcap hnew
    have za := h.2.2.2.2.2.1 a ha
    have zb := h.2.2.2.2.2.1 b hb
    unfold f_X7_make
    rw [e, f_X7_make_4]
    unfold f_X7_make_116 f_X7_make_157
    have n222 : ∀ v w i, mwr (mwr (mwr M 222 i v) 223 i w) 224 i (nI b) 218 11 = nI (16 + tb.length) := fun v w i => by rw [mwr_off _ _ _ (by omega), mwr_off _ _ _ (by omega), mwr_off _ _ _ (by omega)]; exact h.2.2.2.1
    simp (disch := omega) only [h.2.2.2.1, nlt, Nat.lt_irrefl, if_false, mst_n, Option.bind_some, mwr_off, mrd_n, za.2.1, zb.2.1, za.2.2.1, zb.2.2.1, nI_add, mpi_n]
    have fin : ∀ sz wd : Nat, sz = size t → wd = wid t → ∃ (id : Nat) (M' : Mem) (tc : List T), some (mwr (mwr (mwr (mwr (mwr (mwr M 222 (16 + tb.length) (nI (k - 15))) 223 (16 + tb.length) (nI a)) 224 (16 + tb.length) (nI b)) 225 (16 + tb.length) (nI sz)) 226 (16 + tb.length) (nI wd)) 218 11 (nI (16 + tb.length + 1)) 218 11 - nI 1, mwr (mwr (mwr (mwr (mwr (mwr M 222 (16 + tb.length) (nI (k - 15))) 223 (16 + tb.length) (nI a)) 224 (16 + tb.length) (nI b)) 225 (16 + tb.length) (nI sz)) 226 (16 + tb.length) (nI wd)) 218 11 (nI (16 + tb.length + 1))) = some (nI id, M') ∧ MT M' (tb ++ tc) ∧ id < 16 + (tb ++ tc).length ∧ dn (tb ++ tc) id = t ∧ (tc = [] ∨ (tc = [t] ∧ t ∉ tb)) ∧ FMk M M' ∧ M' 229 = M 229 := by
      intro sz wd hs hw
      subst hs
      subst hw
      rw [mwr_at, nsub (by omega), Nat.add_sub_cancel]
      have hlw : lw t = 0 := if_neg (by omega)
      have hl2 := h.2.2.1
      refine ⟨16 + tb.length, _, [t], rfl, MT_snoc h hA (by omega) hnew hc1 (by omega) (mwr_at _ _ _ _) ?_ (fun c c1 c2 i hi => ?_) (fun i hi => ?_) ?_ ?_ ?_ (fun _ => ⟨a, b, ha, hb, ?_, ?_, hki, fun q => hb0 (by omega)⟩) (fun q => by omega), by simp, dn_last, Or.inr ⟨rfl, hnew⟩, ⟨fun c hc => ?_, fun i hi => ?_⟩, ?_⟩
      · rw [mwr_in _ (by omega), mwr_off _ _ _ (by omega), mwr_off _ _ _ (by omega), mwr_off _ _ _ (by omega), mwr_off _ _ _ (by omega), mwr_off _ _ _ (by omega), hlw]
        exact h.2.2.2.2.1
      · rw [mwr_off _ _ _ (by omega)]
        have hne : i ≠ 16 + tb.length := by omega
        have st : ∀ (N : Mem) (d : Nat) (v : Int32), mwr N d (16 + tb.length) v c i = N c i := fun N d v => by
          by_cases q : c = d
          · subst q; exact mwr_in _ hne
          · exact mwr_off _ _ _ q
        rw [st, st, st, st, st]
      · rw [mwr_off _ _ _ (by omega), mwr_off _ _ _ (by omega), mwr_off _ _ _ (by omega), mwr_off _ _ _ (by omega), mwr_off _ _ _ (by omega), mwr_off _ _ _ (by omega)]
      · rw [mwr_off _ _ _ (by omega), mwr_off _ _ _ (by omega), mwr_off _ _ _ (by omega), mwr_off _ _ _ (by omega), mwr_off _ _ _ (by omega), mwr_at, hkk]
      · rw [mwr_off _ _ _ (by omega), mwr_off _ _ _ (by omega), mwr_at]
      · rw [mwr_off _ _ _ (by omega), mwr_at]
      · rw [mwr_off _ _ _ (by omega), mwr_off _ _ _ (by omega), mwr_off _ _ _ (by omega), mwr_off _ _ _ (by omega), mwr_at]
      · rw [mwr_off _ _ _ (by omega), mwr_off _ _ _ (by omega), mwr_off _ _ _ (by omega), mwr_at]
      · rw [mwr_ne _ _ _ (by omega), mwr_ne _ _ _ (by omega), mwr_ne _ _ _ (by omega), mwr_ne _ _ _ (by omega), mwr_ne _ _ _ (by omega), mwr_ne _ _ _ (by omega)]
      · rw [mwr_in _ (by omega), mwr_off _ _ _ (by omega), mwr_off _ _ _ (by omega), mwr_off _ _ _ (by omega), mwr_off _ _ _ (by omega), mwr_off _ _ _ (by omega)]
      · rw [mwr_ne _ _ _ (by omega), mwr_ne _ _ _ (by omega), mwr_ne _ _ _ (by omega), mwr_ne _ _ _ (by omega), mwr_ne _ _ _ (by omega), mwr_ne _ _ _ (by omega)]
    by_cases k18 : k < 18
    · rw [if_pos k18] at hsz hwd
      have q : k - 15 < 3 := by omega
      simp only [q, if_true]
      exact fin (1 + size (dn tb a) + 0) (1 + wid (dn tb a)) (by omega) (by omega)
    · rw [if_neg k18] at hsz hwd
      have q : ¬ k - 15 < 3 := by omega
      simp only [q, if_false]
      exact fin (1 + size (dn tb a) + size (dn tb b)) (3 + wid (dn tb a) + wid (dn tb b)) (by omega) (by omega)
