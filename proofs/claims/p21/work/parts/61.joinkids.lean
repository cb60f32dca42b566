/-! becomes: node i stands for g of the form that i stands for -/
def BC (M : Mem) (tb : List T) (g : T → T) (n : Nat) : Prop := ∀ i, i < n → ∃ y, y < 16 + tb.length ∧ M 14 i = nI y ∧ dn tb y = g (dn tb i)
theorem BC.app {M M' : Mem} {tb tc : List T} {g : T → T} {n : Nat} (h : BC M tb g n) (hn : n ≤ 16 + tb.length) (hm : M' 14 = M 14) : BC M' (tb ++ tc) g n := fun i hi => by
  obtain ⟨y, a, b, c⟩ := h i hi
  exact ⟨y, by rw [List.length_append]; omega, by rw [hm]; exact b, by rw [dn_app a, dn_app (by omega), c]⟩
theorem BC.mst {M : Mem} {tb : List T} {g : T → T} {n y : Nat} (h : BC M tb g n) (hy : y < 16 + tb.length) (hd : dn tb y = g (dn tb n)) : BC (mwr M 14 n (nI y)) tb g (n + 1) := fun i hi => by
  rcases Nat.lt_or_ge i n with e | e
  · obtain ⟨z, a, b, c⟩ := h i e
    exact ⟨z, a, by rw [mwr_in _ (by omega)]; exact b, c⟩
  · have : i = n := by omega
    subst this
    exact ⟨y, hy, mwr_at _ _ _ _, hd⟩
theorem items_app (k : Nat) (a b : List T) : items k (a ++ b) = items k a ++ items k b := List.flatMap_append
theorem FT_nk {M : Mem} {tb : List T} (h : FT M tb) {id : Nat} (h2 : id < 16 + tb.length) : nkid (dn tb id) ≤ 8192 := by
  rcases Nat.lt_or_ge id 16 with e | e
  · rw [dn_lf e]; unfold lf; rw [nkid_nd]; exact Nat.zero_le _
  · obtain ⟨s, ki, a, b, c⟩ := FT_kids h e h2
    have := h.2.2.1
    omega
theorem joinKids_7 {tb : List T} {k : Nat} (hk : k = 20 ∨ k = 21) {id : Nat} (h1 : 16 ≤ id) (h2 : id < 16 + tb.length) {g : T → T} {L : List T} (hL : L = (kids (dn tb id)).map g) (hw : (L.map (wdt k)).sum ≤ 2047) (hcap : joinT k L ∉ tb → Cap tb (L.map (wdt k)).sum) :
    ∀ (n j : Nat) (M : Mem), FT M tb → JS M tb k (items k (L.take j)) → BC M tb g id → j ≤ L.length → L.length - j < n → ∃ (id' : Nat) (M' : Mem) (tc : List T), f_X0_joinKids_7 n (nI id) (nI j) M = some (nI id', M') ∧ FT M' (tb ++ tc) ∧ id' < 16 + (tb ++ tc).length ∧ dn (tb ++ tc) id' = joinT k L ∧ (tc = [] ∨ tc = [joinT k L]) ∧ stof (tb ++ tc) (tb ++ tc).length ≤ stof tb tb.length + (L.map (wdt k)).sum ∧ ∀ c, c = 0 ∨ (14 ≤ c ∧ c ≠ 15) → M' c = M c := by
  intro n
  induction n with
  | zero => intro j M _ _ _ _ h; omega
  | succ n ih =>
    intro j M hF hJ hB hj hn
    have hl := hF.2.1
    have hs := hF.2.2.1
    have aa := hF.2.2.2.2.2.1 id h2
    have hLn : L.length = nkid (dn tb id) := by rw [hL, List.length_map]
    have hnk := FT_nk hF h2
    unfold f_X0_joinKids_7
    simp (disch := omega) only [mrd_n, Option.bind_some, aa.2.1, nlt]
    by_cases hjl : j < nkid (dn tb id)
    · rw [if_pos hjl]
      obtain ⟨q, q1, q2, q3⟩ := kid_ok hF h1 h2 hjl
      obtain ⟨y, y1, y2, y3⟩ := hB q q1
      simp (disch := omega) only [q2, Option.bind_some, mrd_n, y2]
      have hjL : j < L.length := by omega
      have hLj : L[j] = dn tb y := by
        rw [y3, q3]
        subst hL
        rw [List.getElem_map]
      have ht : L.take (j + 1) = L.take j ++ [L[j]] := (List.take_append_getElem hjL).symm
      have hit : items k (L.take (j + 1)) = items k (L.take j) ++ its1 k (dn tb y) := by
        rw [ht, items_app, items_cons, items_nil, List.append_nil, hLj]
      have hwj : (items k (L.take j)).length + wdt k (dn tb y) ≤ 2047 := by
        have e1 : (items k (L.take (j + 1))).length = (items k (L.take j)).length + wdt k (dn tb y) := by rw [hit, List.length_append, its1_len]
        have e2 : (items k L).length = (items k (L.take (j + 1))).length + (items k (L.drop (j + 1))).length := by
          rw [← List.length_append, ← items_app, List.take_append_drop]
        have e3 := items_len k L
        omega
      obtain ⟨M1, e1, f1, g1, o1⟩ := put_ok hF hk hJ y1 hwj
      rw [e1, Option.bind_some, nI_add]
      obtain ⟨id', M', tc, r1, r2, r3, r4, r5, r6, r7⟩ := ih (j + 1) M1 f1 (by rw [hit]; exact g1) (fun i hi => by
        obtain ⟨z, a, b, c⟩ := hB i hi
        exact ⟨z, a, by rw [o1 14 (by omega) (by omega)]; exact b, c⟩) (by omega) (by omega)
      exact ⟨id', M', tc, r1, r2, r3, r4, r5, r6, fun c hc => by rw [r7 c hc, o1 c (by omega) (by omega)]⟩
    · rw [if_neg hjl]
      have hjL : j = L.length := by omega
      subst hjL
      rw [List.take_length] at hJ
      have hlen := items_len k L
      have hrl := rowK_len k (items k L)
      obtain ⟨id', M', tc, e1, f1, g1, d1, i1, o1⟩ := done_ok hF hk hJ (by omega) (fun hnew _ => by
        have := hcap hnew
        exact ⟨this.1, by have := this.2; omega⟩)
      rw [e1, Option.bind_some]
      refine ⟨id', M', tc, rfl, f1, g1, d1, ?_, ?_, fun c hc => o1 c (by omega)⟩
      · rcases i1 with ⟨rfl, -⟩ | ⟨rfl, -⟩
        · exact Or.inl rfl
        · exact Or.inr rfl
      · rcases i1 with ⟨rfl, -⟩ | ⟨rfl, e5⟩
        · simp
        · rw [show (tb ++ [joinI k (items k L)]).length = tb.length + 1 by simp, stof_succ (by simp), stof_app (Nat.le_refl _), List.getElem_concat_length (by rfl), e5, nkid_nd]
          omega
theorem joinKids_ok {M : Mem} {tb : List T} (h : FT M tb) {k : Nat} (hk : k = 20 ∨ k = 21) {id : Nat} (h1 : 16 ≤ id) (h2 : id < 16 + tb.length) {g : T → T} (hB : BC M tb g id) (hw : (((kids (dn tb id)).map g).map (wdt k)).sum ≤ 2047) (hcap : joinT k ((kids (dn tb id)).map g) ∉ tb → Cap tb (((kids (dn tb id)).map g).map (wdt k)).sum) :
    ∃ (id' : Nat) (M' : Mem) (tc : List T), f_X0_joinKids (nI id) (nI k) M = some (nI id', M') ∧ FT M' (tb ++ tc) ∧ id' < 16 + (tb ++ tc).length ∧ dn (tb ++ tc) id' = joinT k ((kids (dn tb id)).map g) ∧ (tc = [] ∨ tc = [joinT k ((kids (dn tb id)).map g)]) ∧ stof (tb ++ tc) (tb ++ tc).length ≤ stof tb tb.length + (((kids (dn tb id)).map g).map (wdt k)).sum ∧ ∀ c, c = 0 ∨ (14 ≤ c ∧ c ≠ 15) → M' c = M c := by
  obtain ⟨M1, e1, f1, g1, o1⟩ := begin_ok h k
  have hn := FT_nk h h2
  obtain ⟨id', M', tc, r1, r2, r3, r4, r5, r6, r7⟩ := joinKids_7 hk h1 h2 rfl hw hcap fuelN 0 M1 f1 (by rw [List.take_zero, items_nil]; exact g1) (fun i hi => by
        obtain ⟨z, a, b, c⟩ := hB i hi
        exact ⟨z, a, by rw [o1 14 (by omega)]; exact b, c⟩) (Nat.zero_le _) (by rw [List.length_map]; unfold fuelN; exact Nat.lt_of_le_of_lt (Nat.sub_le _ _) (by unfold nkid at hn; omega))
  refine ⟨id', M', tc, ?_, r2, r3, r4, r5, r6, fun c hc => by rw [r7 c hc, o1 c (by omega)]⟩
  unfold f_X0_joinKids
  rw [e1, Option.bind_some, r1]
