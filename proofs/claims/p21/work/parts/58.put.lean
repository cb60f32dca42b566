/-! Changes: begin, put, done, two -/
def rowK (k : Nat) (its : List T) : List T := rowT [] (keep k its)
def JS (M : Mem) (tb : List T) (k : Nat) (its : List T) : Prop :=
  M 13 4 = nI k ∧ allAR its ∧ (∃ m, m < 65536 ∧ M 13 6 = nI m ∧ ∀ i, i < 16 → m.testBit i = has its i) ∧ ∃ r, M 13 5 = nI (rowK k its).length ∧ RW M tb 15 0 (rowK k its) r
theorem JS.congr {M M' : Mem} {tb tc : List T} {k : Nat} {its : List T} (h : JS M tb k its) (h1 : M' 13 = M 13) (h2 : M' 15 = M 15) : JS M' (tb ++ tc) k its := by
  obtain ⟨a, b, c, r, d, e⟩ := h
  refine ⟨by rw [h1]; exact a, b, by rw [h1]; exact c, r, by rw [h1]; exact d, fun j hj => ?_⟩
  obtain ⟨e1, e2, e3⟩ := e j hj
  exact ⟨by rw [List.length_append]; omega, by rw [h2]; exact e2, by rw [dn_app e1]; exact e3⟩
theorem keep_snoc (k : Nat) (its : List T) (x : T) : keep k (its ++ [x]) = if kind x = neu k then keep k its else keep k its ++ [x] := by
  unfold keep
  rw [List.filter_append]
  by_cases h : kind x = neu k
  · rw [if_pos h, List.filter_cons, if_neg (by simp [h])]
    simp
  · rw [if_neg h, List.filter_cons, if_pos (by simp [h])]
    simp
theorem rowK_snoc (k : Nat) (its : List T) (x : T) : rowK k (its ++ [x]) = if kind x = neu k then rowK k its else ins (rowK k its) x := by
  unfold rowK
  rw [keep_snoc]
  by_cases h : kind x = neu k
  · rw [if_pos h, if_pos h]
  · rw [if_neg h, if_neg h, rowT_snoc]
theorem has_snoc (its : List T) (x : T) (i : Nat) : has (its ++ [x]) i = (has its i || kind x == i) := by
  unfold has
  rw [List.any_append]
  simp
theorem rowK_AR {k : Nat} {its : List T} (h : allAR its) : allAR (rowK k its) := rowT_AR allAR_nil (keep_AR h)
theorem rowK_srt (k : Nat) (its : List T) : Srt (rowK k its) := rowT_srt srt_nil
theorem rowK_len (k : Nat) (its : List T) : (rowK k its).length ≤ its.length := by
  have h1 := rowT_len (its := keep k its) (l := [])
  have h2 : (keep k its).length ≤ its.length := List.length_filter_le _ _
  unfold rowK
  simp at h1
  omega
theorem shl1 : ∀ i, i < 16 → nI 1 <<< (nI i &&& nI 31) = nI (2 ^ i) := by decide +kernel
theorem neutral_ok {M : Mem} {k : Nat} (hk : k < 32) (h : M 13 4 = nI k) : f_X0_neutral M = some (nI (neu k), M) := by
  unfold f_X0_neutral f_X0_neutral_14 neu
  rw [h]
  by_cases h1 : k = 20
  · simp (disch := omega) only [neq, h1, if_true]
  · simp (disch := omega) only [neq, h1, if_false]
/-- the search for the place, from the end -/
theorem put_95 {k43 : Int32 → Int32 → Int32 → Int32 → Mem → Option Rv} {M : Mem} {tb : List T} (h : FT M tb) {row : List T} {r : Nat → Nat} (hrw : RW M tb 15 0 row r) (hlen : row.length < 2048) {x : T} {id : Nat} (hid : id < 16 + tb.length) (hx : dn tb id = x) {x1 x2 x3 x4 : Int32} :
    ∀ (n pl : Nat), pl < n → pl ≤ row.length → (∀ j (hj : j < row.length), pl ≤ j → ah x row[j] = true) → ∃ pl', pl' ≤ row.length ∧ (∀ j (hj : j < row.length), pl' ≤ j → ah x row[j] = true) ∧ (∀ (h0 : 0 < pl') (h1 : pl' - 1 < row.length), ah x row[pl' - 1] = false) ∧ f_X0_put_95 k43 n x1 x2 x3 x4 (nI id) (nI pl) M = f_X0_put_127 k43 x1 x2 x3 x4 (nI id) (nI pl') M := by
  intro n
  induction n with
  | zero => intro pl h1; omega
  | succ n ih =>
    intro pl h1 h2 h3
    rw [f_X0_put_95]
    by_cases hp : 0 < pl
    · obtain ⟨r1, r2, r3⟩ := hrw (pl - 1) (by omega)
      rw [Nat.zero_add] at r2
      obtain ⟨v, hv, hpos⟩ := order_ok h r1 hid
      simp (disch := omega) only [nlt, hp, if_true, nsub, mrd_n, Option.bind_some, r2, hv]
      rw [r3, hx] at hpos
      by_cases hah : ah x row[pl - 1] = true
      · rw [if_pos (hpos.mpr hah)]
        refine ih (pl - 1) (by omega) (by omega) (fun j hj hj2 => ?_)
        by_cases hjp : j = pl - 1
        · subst hjp; exact hah
        · exact h3 j hj (by omega)
      · rw [if_neg (fun q => hah (hpos.mp q))]
        exact ⟨pl, h2, h3, fun _ _ => by simpa using hah, rfl⟩
    · simp (disch := omega) only [nlt, hp, if_false]
      exact ⟨pl, h2, h3, fun h0 => absurd h0 hp, rfl⟩
theorem put_item {k43 : Int32 → Int32 → Int32 → Int32 → Mem → Option Rv} {M : Mem} {tb : List T} (h : FT M tb) {k : Nat} (hk : k = 20 ∨ k = 21) {its : List T} (hJ : JS M tb k its) (hb : its.length < 2047) {x : T} {id : Nat} (hid : id < 16 + tb.length) (hx : dn tb id = x) {x1 x2 x3 x4 : Int32} :
    ∃ M', f_X0_put_67 k43 x1 x2 x3 x4 (nI id) M = k43 x1 x2 x3 (x4 + nI 1) M' ∧ FT M' tb ∧ JS M' tb k (its ++ [x]) ∧ ∀ c, c ≠ 13 → c ≠ 15 → M' c = M c := by
  have hl := h.2.1
  obtain ⟨j1, j2, ⟨m, m1, m2, m3⟩, r, j3, j4⟩ := hJ
  have hxA : AR x = true := by rw [← hx]; exact dn_AR h.1 hid
  have hrl := rowK_len k its
  -- the signs of what was put
  have step1 : ∃ M1, f_X0_put_67 k43 x1 x2 x3 x4 (nI id) M = f_X0_put_89 k43 x1 x2 x3 x4 (nI id) M1 ∧ (∀ c, c ≠ 13 → M1 c = M c) ∧ (∀ i, i ≠ 6 → M1 13 i = M 13 i) ∧ ∃ m', m' < 65536 ∧ M1 13 6 = nI m' ∧ ∀ i, i < 16 → m'.testBit i = has (its ++ [x]) i := by
    unfold f_X0_put_67
    by_cases hlf : id < 16
    · simp (disch := omega) only [nlt, hlf, if_true, mpi_n, Option.bind_some, m2, shl1, nI_or]
      refine ⟨_, rfl, fun c hc => mwr_ne _ _ _ hc, fun i hi => mwr_in _ hi, m ||| 2 ^ id, ?_, mwr_at _ _ _ _, fun i hi => ?_⟩
      · have h1 : (2 : Nat) ^ id < 2 ^ 16 := Nat.pow_lt_pow_right (by omega) hlf
        exact Nat.or_lt_two_pow (n := 16) m1 h1
      · rw [Nat.testBit_or, m3 i hi, has_snoc, ← hx, dn_lf hlf, kind_lf, Nat.testBit_two_pow]
        congr 1
    · simp (disch := omega) only [nlt, hlf, if_false]
      refine ⟨M, rfl, fun _ _ => rfl, fun _ _ => rfl, m, m1, m2, fun i hi => ?_⟩
      have hkx := (dn_kind h.1 hid).2 (by omega)
      rw [hx] at hkx
      rw [has_snoc, m3 i hi, show (kind x == i) = false by simp; omega, Bool.or_false]
  obtain ⟨M1, e1, f1, f2, hm'⟩ := step1
  rw [e1]
  have hF1 : FT M1 tb := h.congr (fun c a b => f1 c (by omega))
  have hrw1 : RW M1 tb 15 0 (rowK k its) r := fun j hj => by
    rw [f1 15 (by omega)]
    exact j4 j hj
  have hl1 : M1 13 5 = nI (rowK k its).length := by rw [f2 5 (by omega)]; exact j3
  have hk1 : M1 13 4 = nI k := by rw [f2 4 (by omega)]; exact j1
  have hAR2 : allAR (its ++ [x]) := fun t ht => by
    rcases List.mem_append.mp ht with ht | ht
    · exact j2 t ht
    · rw [List.mem_singleton.mp ht]; exact hxA
  unfold f_X0_put_89
  rw [hl1]
  generalize hrow : rowK k its = row at *
  have hsr : Srt row := by rw [← hrow]; exact rowK_srt k its
  have hra : allAR row := by rw [← hrow]; exact rowK_AR j2
  obtain ⟨pl, p1, p2, p3, p4⟩ := put_95 (k43 := k43) hF1 hrw1 (by omega) hid hx (x1 := x1) (x2 := x2) (x3 := x3) (x4 := x4) fuelN row.length (by unfold fuelN; omega) (Nat.le_refl _) (fun j hj hj2 => by omega)
  rw [p4]
  have hsnoc := rowK_snoc k its x
  rw [hrow] at hsnoc
  -- nothing goes in
  have stay : rowK k (its ++ [x]) = row → ∃ M', f_X0_put_220 k43 x1 x2 x3 x4 M1 = k43 x1 x2 x3 (x4 + nI 1) M' ∧ FT M' tb ∧ JS M' tb k (its ++ [x]) ∧ ∀ c, c ≠ 13 → c ≠ 15 → M' c = M c := fun hs => by
    refine ⟨M1, rfl, hF1, ⟨hk1, hAR2, hm', r, by rw [hs]; exact hl1, by rw [hs]; exact hrw1⟩, fun c a _ => f1 c a⟩
  -- x goes in at the place
  have put : x ∉ row → kind x ≠ neu k → ∃ M', f_X0_put_151 k43 x1 x2 x3 x4 (nI id) (nI pl) (nI 0) M1 = k43 x1 x2 x3 (x4 + nI 1) M' ∧ FT M' tb ∧ JS M' tb k (its ++ [x]) ∧ ∀ c, c ≠ 13 → c ≠ 15 → M' c = M c := fun hn hkn => by
    have hne : ¬ id = neu k := fun e => hkn (by
      have := neu_lt k
      rw [← hx, dn_lf (by omega), kind_lf, e])
    unfold f_X0_put_151
    have hnlt := neu_lt k
    simp (disch := omega) only [if_true, neutral_ok (show k < 32 by omega) hk1, Option.bind_some, neq, hne, if_false, hl1, nlt, show row.length < 2048 by omega, nsub, nI_add]
    rw [mcp_n (by omega) (by omega) (by omega) (by omega), Option.bind_some, mst_n (by omega) (by omega), Option.bind_some]
    generalize hM6 : mwr (fun c => if c = 15 then va_cpy (M1 15) (M1 15) pl (pl + 1) (row.length - pl) else M1 c) 15 pl (nI id) = M6
    have c13 : M6 13 = M1 13 := by rw [← hM6, mwr_ne _ _ _ (by omega), if_neg (by omega)]
    rw [c13, hl1]
    simp only [mpi_n, Option.bind_some, nI_add]
    unfold f_X0_put_220
    generalize hM7 : mwr M6 13 5 (nI (row.length + 1)) = M7
    have far : ∀ c, c ≠ 13 → c ≠ 15 → M7 c = M1 c := fun c a b => by
      rw [← hM7, mwr_ne _ _ _ a, ← hM6, mwr_ne _ _ _ b, if_neg b]
    have f13 : ∀ i, i ≠ 5 → M7 13 i = M1 13 i := fun i hi => by rw [← hM7, mwr_in _ hi, c13]
    have c15 : ∀ j, M7 15 j = if j = pl then nI id else if pl + 1 ≤ j ∧ j < pl + 1 + (row.length - pl) then M1 15 (pl + (j - (pl + 1))) else M1 15 j := fun j => by
      rw [← hM7, mwr_off _ _ _ (by omega), ← hM6]
      by_cases hj : j = pl
      · rw [if_pos hj, hj, mwr_at]
      · rw [if_neg hj, mwr_in _ hj, if_pos rfl]
        rfl
    -- the new row
    have hins : ins row x = row.take pl ++ x :: row.drop pl := by
      have e := ins_at (p := row.take pl) (q := row.drop pl) (t := x) (fun y hy => ?_) (fun y hy => ?_)
      · rwa [List.take_append_drop] at e
      · obtain ⟨j, hj, rfl⟩ := List.getElem_of_mem hy
        rw [List.length_take] at hj
        rw [List.getElem_take]
        have q1 : ah x row[pl - 1] = false := p3 (by omega) (by omega)
        have q2 : ah row[pl - 1] x = true := by
          by_cases q : ah row[pl - 1] x = true
          · exact q
          · exact absurd (by rw [ah_tri hxA (hra _ (List.getElem_mem _)) q1 (by simpa using q)]; exact List.getElem_mem _) hn
        by_cases hjp : j = pl - 1
        · subst hjp; exact q2
        · exact ah_trans (List.pairwise_iff_getElem.mp hsr j (pl - 1) (by omega) (by omega) (by omega)) q2
      · obtain ⟨j, hj, rfl⟩ := List.getElem_of_mem hy
        rw [List.length_drop] at hj
        rw [List.getElem_drop]
        exact p2 (pl + j) (by omega) (by omega)
    have hnew : rowK k (its ++ [x]) = row.take pl ++ x :: row.drop pl := by rw [hsnoc, if_neg hkn, hins]
    have hnl : (row.take pl ++ x :: row.drop pl).length = row.length + 1 := by
      rw [List.length_append, List.length_cons, List.length_take, List.length_drop]
      omega
    refine ⟨M7, rfl, hF1.congr (fun c a b => far c (by omega) (by omega)), ⟨by rw [f13 4 (by omega)]; exact hk1, hAR2, by rw [f13 6 (by omega)]; exact hm', fun j => if j < pl then r j else if j = pl then id else r (j - 1), ?_, fun j hj => ?_⟩, fun c a b => by rw [far c a b, f1 c a]⟩
    · rw [hnew, hnl, ← hM7, mwr_at]
    · rw [hnew] at hj
      rw [hnl] at hj
      simp only [hnew, Nat.zero_add]
      rw [c15]
      by_cases a : j < pl
      · obtain ⟨q1, q2, q3⟩ := hrw1 j (by omega)
        rw [Nat.zero_add] at q2
        rw [if_pos a, if_neg (by omega), if_neg (by omega)]
        refine ⟨q1, q2, ?_⟩
        rw [q3, List.getElem_append_left (by rw [List.length_take]; omega), List.getElem_take]
      · by_cases b : j = pl
        · rw [if_neg a, if_pos b, if_pos b]
          refine ⟨hid, rfl, ?_⟩
          subst b
          rw [hx, List.getElem_append_right (by rw [List.length_take]; omega)]
          have e0 : j - (row.take j).length = 0 := by rw [List.length_take]; omega
          simp only [e0, List.getElem_cons_zero]
        · obtain ⟨q1, q2, q3⟩ := hrw1 (j - 1) (by omega)
          rw [Nat.zero_add] at q2
          rw [if_neg a, if_neg b, if_neg b, if_pos (by omega), show pl + (j - (pl + 1)) = j - 1 by omega]
          refine ⟨q1, q2, ?_⟩
          rw [q3, List.getElem_append_right (by rw [List.length_take]; omega)]
          have e0 : j - (row.take pl).length = (j - 1 - pl) + 1 := by rw [List.length_take]; omega
          simp only [e0, List.getElem_cons_succ, List.getElem_drop]
          congr 1
          omega
  unfold f_X0_put_127
  by_cases hpl : 0 < pl
  · obtain ⟨r1, r2, r3⟩ := hrw1 (pl - 1) (by omega)
    rw [Nat.zero_add] at r2
    simp (disch := omega) only [nlt, hpl, if_true, nsub, mrd_n, Option.bind_some, r2, neq]
    by_cases he : r (pl - 1) = id
    · rw [if_pos he]
      have hin : x ∈ row := by
        rw [← hx, ← he, r3]
        exact List.getElem_mem _
      unfold f_X0_put_151
      simp (disch := omega) only [neq, show ¬ (1 : Nat) = 0 by omega, if_false]
      refine stay ?_
      rw [hsnoc]
      split
      · rfl
      · exact ins_had hsr hin
    · rw [if_neg he]
      unfold f_X0_put_150
      have hn : x ∉ row := fun hin => by
        obtain ⟨j, hj, hjx⟩ := List.getElem_of_mem hin
        by_cases hjp : pl ≤ j
        · have := p2 j hj hjp
          rw [hjx, ah_irr] at this
          cases this
        · have q1 : ah x row[pl - 1] = false := p3 hpl (by omega)
          by_cases hjl : j = pl - 1
          · refine he (dn_inj h.1 r1 hid ?_)
            subst hjl
            rw [r3, hx]
            exact hjx
          · have := List.pairwise_iff_getElem.mp hsr j (pl - 1) (by omega) (by omega) (by omega)
            rw [hjx, q1] at this
            cases this
      by_cases hkn : kind x = neu k
      · unfold f_X0_put_151
        have hnlt := neu_lt k
        have hidn : id = neu k := by
          by_cases q : id < 16
          · rw [← hx, dn_lf q, kind_lf] at hkn
            exact hkn
          · have := (dn_kind h.1 hid).2 (by omega)
            rw [hx] at this
            omega
        simp (disch := omega) only [if_true, neutral_ok (show k < 32 by omega) hk1, Option.bind_some, neq, hidn]
        exact stay (by rw [hsnoc, if_pos hkn])
      · exact put hn hkn
  · simp (disch := omega) only [nlt, hpl, if_false]
    unfold f_X0_put_150
    have hn : x ∉ row := fun hin => by
      obtain ⟨j, hj, hjx⟩ := List.getElem_of_mem hin
      have := p2 j hj (by omega)
      rw [hjx, ah_irr] at this
      cases this
    by_cases hkn : kind x = neu k
    · unfold f_X0_put_151
      have hnlt := neu_lt k
      have hidn : id = neu k := by
        by_cases q : id < 16
        · rw [← hx, dn_lf q, kind_lf] at hkn
          exact hkn
        · have := (dn_kind h.1 hid).2 (by omega)
          rw [hx] at this
          omega
      simp (disch := omega) only [if_true, neutral_ok (show k < 32 by omega) hk1, Option.bind_some, neq, hidn]
      exact stay (by rw [hsnoc, if_pos hkn])
    · exact put hn hkn
