/-! the model: putting forms into an all or an any -/
theorem absb_iff (k : Nat) (its : List T) : absb k its = true ↔ has its (1 - neu k) = true ∨ ∃ i, 2 ≤ i ∧ i < 16 ∧ has its i = true ∧ has its (opk i) = true := by
  unfold absb
  simp only [Bool.or_eq_true, Bool.and_eq_true, List.any_eq_true, List.mem_range]
  constructor
  · rintro ((h | ⟨h2, h3⟩) | ⟨s, hs, h4, h10⟩)
    · exact Or.inl h
    · exact Or.inr ⟨2, by omega, by omega, h2, h3⟩
    · refine Or.inr ⟨4 + s, by omega, by omega, h4, ?_⟩
      have : opk (4 + s) = 10 + s := by
        unfold opk
        rw [if_neg (by omega), if_neg (by omega), if_pos (by omega)]
        omega
      rw [this]
      exact h10
  · rintro (h | ⟨i, h2, h16, hi, ho⟩)
    · exact Or.inl (Or.inl h)
    · rcases Nat.lt_or_ge i 4 with q | q
      · have : opk i = 5 - i := by unfold opk; rw [if_neg (by omega), if_pos q]
        rw [this] at ho
        rcases (show i = 2 ∨ i = 3 by omega) with rfl | rfl
        · exact Or.inl (Or.inr ⟨hi, ho⟩)
        · exact Or.inl (Or.inr ⟨ho, hi⟩)
      · rcases Nat.lt_or_ge i 10 with p | p
        · have : opk i = i + 6 := by unfold opk; rw [if_neg (by omega), if_neg (by omega), if_pos p]
          rw [this] at ho
          refine Or.inr ⟨i - 4, by omega, ?_, ?_⟩
          · rw [show 4 + (i - 4) = i by omega]; exact hi
          · rw [show 10 + (i - 4) = i + 6 by omega]; exact ho
        · have : opk i = i - 6 := by unfold opk; rw [if_neg (by omega), if_neg (by omega), if_neg (by omega)]
          rw [this] at ho
          refine Or.inr ⟨i - 10, by omega, ?_, ?_⟩
          · rw [show 4 + (i - 10) = i - 6 by omega]; exact ho
          · rw [show 10 + (i - 10) = i by omega]; exact hi
theorem opk_2 {i : Nat} (h : 2 ≤ i) (h2 : i < 16) : 2 ≤ opk i ∧ opk i < 16 ∧ opk (opk i) = i ∧ opk i ≠ i := by
  have : ∀ i, i < 16 → 2 ≤ i → 2 ≤ opk i ∧ opk i < 16 ∧ opk (opk i) = i ∧ opk i ≠ i := by decide
  exact this i h2 h
theorem bool_iff {a b : Bool} (h : a = true ↔ b = true) : a = b := by
  cases a <;> cases b <;> simp_all
theorem absb_low {k : Nat} {its : List T} {x : T} (hx : kind x < 2) : absb k (its ++ [x]) = (absb k its || decide (kind x ≠ neu k)) := by
  have hn := neu_lt k
  apply bool_iff
  rw [absb_iff, Bool.or_eq_true, absb_iff, decide_eq_true_iff]
  simp only [has_snoc, Bool.or_eq_true, beq_iff_eq]
  constructor
  · rintro ((h | h) | ⟨i, h2, h16, hi, ho⟩)
    · exact Or.inl (Or.inl h)
    · exact Or.inr (by omega)
    · obtain ⟨o1, o2, -, -⟩ := opk_2 h2 h16
      rcases hi with hi | hi
      · rcases ho with ho | ho
        · exact Or.inl (Or.inr ⟨i, h2, h16, hi, ho⟩)
        · omega
      · omega
  · rintro ((h | ⟨i, h2, h16, hi, ho⟩) | h)
    · exact Or.inl (Or.inl h)
    · exact Or.inr ⟨i, h2, h16, Or.inl hi, Or.inl ho⟩
    · exact Or.inl (Or.inr (by omega))
theorem absb_mid {k : Nat} {its : List T} {x : T} (hx : 2 ≤ kind x) (hx2 : kind x < 16) : absb k (its ++ [x]) = (absb k its || has its (opk (kind x))) := by
  have hn := neu_lt k
  apply bool_iff
  rw [absb_iff, Bool.or_eq_true, absb_iff]
  simp only [has_snoc, Bool.or_eq_true, beq_iff_eq]
  obtain ⟨x1, x2, x3, x4⟩ := opk_2 hx hx2
  constructor
  · rintro ((h | h) | ⟨i, h2, h16, hi, ho⟩)
    · exact Or.inl (Or.inl h)
    · omega
    · obtain ⟨o1, o2, o3, o4⟩ := opk_2 h2 h16
      rcases hi with hi | hi
      · rcases ho with ho | ho
        · exact Or.inl (Or.inr ⟨i, h2, h16, hi, ho⟩)
        · exact Or.inr (by rw [ho, o3]; exact hi)
      · rcases ho with ho | ho
        · exact Or.inr (by rw [hi]; exact ho)
        · exact absurd (ho.symm.trans hi) o4
  · rintro ((h | ⟨i, h2, h16, hi, ho⟩) | h)
    · exact Or.inl (Or.inl h)
    · exact Or.inr ⟨i, h2, h16, Or.inl hi, Or.inl ho⟩
    · exact Or.inr ⟨kind x, hx, hx2, Or.inr rfl, Or.inl h⟩
theorem absb_high {k : Nat} {its : List T} {x : T} (hx : 16 ≤ kind x) : absb k (its ++ [x]) = absb k its := by
  have hn := neu_lt k
  apply bool_iff
  rw [absb_iff, absb_iff]
  simp only [has_snoc, Bool.or_eq_true, beq_iff_eq]
  constructor
  · rintro ((h | h) | ⟨i, h2, h16, hi, ho⟩)
    · exact Or.inl h
    · omega
    · obtain ⟨o1, o2, -, -⟩ := opk_2 h2 h16
      rcases hi with hi | hi
      · rcases ho with ho | ho
        · exact Or.inr ⟨i, h2, h16, hi, ho⟩
        · omega
      · omega
  · rintro (h | ⟨i, h2, h16, hi, ho⟩)
    · exact Or.inl (Or.inl h)
    · exact Or.inr ⟨i, h2, h16, Or.inl hi, Or.inl ho⟩
/-- the model's row: 0 and 1 are never in it -/
def rowM (its : List T) : List T := rowT [] (its.filter fun t => Nat.ble 2 (kind t))
theorem rowM_snoc (its : List T) (x : T) : rowM (its ++ [x]) = if kind x < 2 then rowM its else ins (rowM its) x := by
  unfold rowM
  rw [List.filter_append]
  by_cases h : kind x < 2
  · rw [if_pos h, List.filter_cons, if_neg (by rw [Nat.ble_eq]; omega)]
    simp
  · rw [if_neg h, List.filter_cons, if_pos (by rw [Nat.ble_eq]; omega), List.filter_nil, rowT_snoc]
theorem flt_AR {its : List T} (h : allAR its) : allAR (its.filter fun t => Nat.ble 2 (kind t)) := fun x hx => h x (List.mem_filter.mp hx).1
theorem rowM_AR {its : List T} (h : allAR its) : allAR (rowM its) := rowT_AR allAR_nil (flt_AR h)
theorem rowM_srt (its : List T) : Srt (rowM its) := rowT_srt srt_nil
theorem rowM_len (its : List T) : (rowM its).length ≤ its.length := by
  have h1 := rowT_len (its := its.filter fun t => Nat.ble 2 (kind t)) (l := [])
  have h2 : (its.filter fun t => Nat.ble 2 (kind t)).length ≤ its.length := List.length_filter_le _ _
  unfold rowM
  simp at h1
  omega
theorem rowM_mem {its : List T} (h : allAR its) (x : T) : x ∈ rowM its ↔ x ∈ its ∧ 2 ≤ kind x := by
  unfold rowM
  rw [row_iff (flt_AR h), List.mem_filter, Nat.ble_eq]
theorem has_rowM {its : List T} (h : allAR its) {i : Nat} (h2 : 2 ≤ i) (h16 : i < 16) : has its i = true ↔ lf i ∈ rowM its := by
  rw [has_iff, rowM_mem h]
  constructor
  · rintro ⟨t, ht, hk⟩
    have := AR_leaf (h t ht) (by omega)
    rw [hk] at this
    rw [← this]
    exact ⟨ht, by omega⟩
  · rintro ⟨ht, -⟩
    exact ⟨_, ht, kind_lf i⟩
theorem rowM_keep {k : Nat} {its : List T} (hk : absb k its = false) : rowM its = rowK k its := by
  have hn := neu_lt k
  have hh : has its (1 - neu k) = false := by
    cases q : has its (1 - neu k)
    · rfl
    · rw [(absb_iff k its).mpr (Or.inl q)] at hk; cases hk
  unfold rowM rowK keep
  congr 1
  apply List.filter_congr
  intro t ht
  have h1 : kind t ≠ 1 - neu k := fun e => by
    have := (has_iff its (1 - neu k)).mpr ⟨t, ht, e⟩
    rw [this] at hh
    cases hh
  by_cases q : kind t = neu k
  · have : ¬ 2 ≤ kind t := by omega
    have e1 : Nat.ble 2 (kind t) = false := by
      cases e : Nat.ble 2 (kind t)
      · rfl
      · exact absurd (Nat.ble_eq.mp e) this
    rw [e1, q]
    simp
  · have e1 : Nat.ble 2 (kind t) = true := Nat.ble_eq.mpr (by omega)
    rw [e1]
    simp [q]
def JM (M : Mem) (tb : List T) (k : Nat) (its : List T) : Prop := M 218 15 = bI (absb k its) ∧ allAR its ∧ ∃ r, M 218 14 = nI (rowM its).length ∧ RW M tb 230 0 (rowM its) r
def FPut (M M' : Mem) : Prop := (∀ c, c ≠ 218 → c ≠ 230 → M' c = M c) ∧ ∀ i, i ≠ 14 → i ≠ 15 → M' 218 i = M 218 i
theorem FPut.rfl' (M : Mem) : FPut M M := ⟨fun _ _ _ => rfl, fun _ _ _ => rfl⟩
theorem FPut.tr {A B C : Mem} (h : FPut A B) (g : FPut B C) : FPut A C := ⟨fun c a b => by rw [g.1 c a b, h.1 c a b], fun i a b => by rw [g.2 i a b, h.2 i a b]⟩
theorem MT.put {M M' : Mem} {tb : List T} (h : MT M tb) (f : FPut M M') : MT M' tb := h.congr (fun c _ _ => f.1 c (by omega) (by omega)) (f.1 229 (by omega) (by omega)) (f.2 11 (by omega) (by omega)) (f.2 12 (by omega) (by omega))
theorem mbegin_ok {M : Mem} {tb : List T} (h : MT M tb) (k : Nat) : ∃ M', f_X7_beginPut M = some (nI 0, M') ∧ MT M' tb ∧ JM M' tb k [] ∧ FPut M M' := by
  unfold f_X7_beginPut
  have hz : ∀ (N : Mem) (c i : Nat), mpz N c i (nI 0) = some (mwr N c i (nI 0)) := fun N c i => if_pos (Or.inl rfl)
  simp only [mpi_n, Option.bind_some, hz]
  have f : FPut M (mwr (mwr M 218 14 (nI 0)) 218 15 (nI 0)) := ⟨fun c a b => by rw [mwr_ne _ _ _ a, mwr_ne _ _ _ a], fun i a b => by rw [mwr_in _ b, mwr_in _ a]⟩
  refine ⟨_, rfl, h.put f, ⟨?_, allAR_nil, fun _ => 0, ?_, fun j hj => absurd hj (by show ¬ j < 0; omega)⟩, f⟩
  · rw [mwr_at]
    have : absb k [] = false := by
      cases q : absb k []
      · rfl
      · rcases (absb_iff k []).mp q with p | ⟨i, -, -, p, -⟩ <;> cases p
    rw [this]
    rfl
  · rw [mwr_in _ (by omega), mwr_at]
    rfl
theorem m1_ne {n : Nat} (h : n < 2147483648) : ¬ nI n = (-1 : Int32) := fun e => by
  have h1 := nI_pos h
  rw [e] at h1
  exact h1 (by decide)
theorem counter_ok {i : Nat} (h2 : 2 ≤ i) (hi : i < 2147483648) (M : Mem) : f_X7_counter (nI i) M = some (if i < 16 then nI (opk i) else -1, M) := by
  unfold f_X7_counter f_X7_counter_36 f_X7_counter_55 f_X7_counter_56 opk
  simp (disch := omega) only [neq, nlt]
  rw [if_neg (show ¬ i < 2 by omega)]
  by_cases q2 : i = 2
  · subst q2; rfl
  · rw [if_neg q2]
    by_cases q3 : i = 3
    · subst q3; rfl
    · rw [if_neg q3, if_neg (show ¬ i < 4 by omega), if_neg (show ¬ i < 4 by omega)]
      by_cases q4 : i < 10
      · rw [if_pos q4, if_pos q4, if_pos (show i < 16 by omega), nI_add]
      · rw [if_neg q4, if_neg q4, if_neg q4]
        by_cases q5 : i < 16
        · rw [if_pos q5, if_pos q5, nsub (by omega)]
        · rw [if_neg q5, if_neg q5]
theorem mpz_b (M : Mem) (c k : Nat) (b : Bool) : mpz M c k (bI b) = some (mwr M c k (bI b)) := by
  unfold mpz
  cases b <;> exact if_pos (by decide)
theorem mpz_0 (M : Mem) (c k : Nat) : mpz M c k (nI 0) = some (mwr M c k (bI false)) := mpz_b M c k false
theorem mpz_1 (M : Mem) (c k : Nat) : mpz M c k (nI 1) = some (mwr M c k (bI true)) := mpz_b M c k true
/-- one round of the look at what is there -/
theorem po_47 {M0 : Mem} {tb : List T} (h : MT M0 tb) {row : List T} {r : Nat → Nat} (hrl : row.length ≤ 3999) (h14 : M0 218 14 = nI row.length) (hrw : RW M0 tb 230 0 row r) {id : Nat} (h2 : 2 ≤ id) (hid : id < 16 + tb.length) (x4 : Int32) :
    ∀ (n j : Nat) (had ab : Bool), j ≤ row.length → row.length - j < n →
    ∃ (had' ab' : Bool), f_X7_putOne_47 n (nI id) x4 (bI had) (nI j) (mwr M0 218 15 (bI ab)) = (if had' = true then some (nI 0, mwr M0 218 15 (bI ab')) else f_X7_putOne_121 fuelN (nI id) x4 (mwr M0 218 15 (bI ab'))) ∧ (had' = true ↔ had = true ∨ ∃ i, j ≤ i ∧ i < row.length ∧ r i = id) ∧ (ab' = true ↔ ab = true ∨ ∃ i, j ≤ i ∧ i < row.length ∧ id < 16 ∧ r i = opk id) := by
  have hlen := h.2.1
  intro n
  induction n with
  | zero => intro j had ab _ h; omega
  | succ n ih =>
    intro j had ab hj hn
    have m14 : mwr M0 218 15 (bI ab) 218 14 = nI row.length := by rw [mwr_in _ (by omega)]; exact h14
    rw [f_X7_putOne_47]
    unfold f_X7_putOne_72 f_X7_putOne_77 f_X7_putOne_101 f_X7_putOne_106
    by_cases hjl : j < row.length
    · obtain ⟨r1, r2, r3⟩ := hrw j hjl
      rw [Nat.zero_add] at r2
      have m230 : mwr M0 218 15 (bI ab) 230 j = nI (r j) := by rw [mwr_off _ _ _ (by omega)]; exact r2
      have key : ∀ (c : Int32), c = (if id < 16 then nI (opk id) else -1) → (nI (r j) = c) = (id < 16 ∧ r j = opk id) := by
        intro c hc
        subst hc
        by_cases q : id < 16
        · have := opk_lt q
          rw [if_pos q]
          apply propext
          rw [neq (by omega) (by omega)]
          exact ⟨fun e => ⟨q, e⟩, fun e => e.2⟩
        · rw [if_neg q]
          apply propext
          exact ⟨fun e => absurd e (m1_ne (by omega)), fun e => absurd e.1 q⟩
      have mw : ∀ b c : Bool, mwr (mwr M0 218 15 (bI b)) 218 15 (bI c) = mwr M0 218 15 (bI c) := fun b c => by
        funext a i
        by_cases q : a = 218
        · subst q
          by_cases p : i = 15
          · subst p; rw [mwr_at, mwr_at]
          · rw [mwr_in _ p, mwr_in _ p, mwr_in _ p]
        · rw [mwr_off _ _ _ q, mwr_off _ _ _ q, mwr_off _ _ _ q]
      simp (disch := omega) only [m14, nlt, hjl, if_true, bI_0', mrd_n, Option.bind_some, m230, neq, mwr_at, counter_ok h2, mpz_0, mpz_1, mw, nI_add, key _ rfl]
      have fin : ∀ (hd2 ab2 : Bool), (hd2 = true ↔ had = true ∨ r j = id) → (ab2 = true ↔ ab = true ∨ (id < 16 ∧ r j = opk id)) → ∃ (had' ab' : Bool), f_X7_putOne_47 n (nI id) x4 (bI hd2) (nI (j + 1)) (mwr M0 218 15 (bI ab2)) = (if had' = true then some (nI 0, mwr M0 218 15 (bI ab')) else f_X7_putOne_121 fuelN (nI id) x4 (mwr M0 218 15 (bI ab'))) ∧ (had' = true ↔ had = true ∨ ∃ i, j ≤ i ∧ i < row.length ∧ r i = id) ∧ (ab' = true ↔ ab = true ∨ ∃ i, j ≤ i ∧ i < row.length ∧ id < 16 ∧ r i = opk id) := by
        intro hd2 ab2 e1 e2
        obtain ⟨hd', ab', p1, p2, p3⟩ := ih (j + 1) hd2 ab2 (by omega) (by omega)
        refine ⟨hd', ab', p1, p2.trans ?_, p3.trans ?_⟩
        · rw [e1]
          constructor
          · rintro ((q | q) | ⟨i, q1, q2, q3⟩)
            · exact Or.inl q
            · exact Or.inr ⟨j, Nat.le_refl _, hjl, q⟩
            · exact Or.inr ⟨i, by omega, q2, q3⟩
          · rintro (q | ⟨i, q1, q2, q3⟩)
            · exact Or.inl (Or.inl q)
            · by_cases e : i = j
              · subst e; exact Or.inl (Or.inr q3)
              · exact Or.inr ⟨i, by omega, q2, q3⟩
        · rw [e2]
          constructor
          · rintro ((q | q) | ⟨i, q1, q2, q3⟩)
            · exact Or.inl q
            · exact Or.inr ⟨j, Nat.le_refl _, hjl, q⟩
            · exact Or.inr ⟨i, by omega, q2, q3⟩
          · rintro (q | ⟨i, q1, q2, q3⟩)
            · exact Or.inl (Or.inl q)
            · by_cases e : i = j
              · subst e; exact Or.inl (Or.inr q3)
              · exact Or.inr ⟨i, by omega, q2, q3⟩
      obtain ⟨hd', ab', p1, p2⟩ := fin (had || decide (r j = id)) (ab || decide (id < 16 ∧ r j = opk id)) (by simp) (by simp)
      refine ⟨hd', ab', Eq.trans ?_ p1, p2⟩
      by_cases e1 : r j = id
      · by_cases e2 : (id < 16 ∧ r j = opk id)
        · cases had <;> cases ab <;> simp only [if_pos e1, if_pos e2, decide_eq_true e1, decide_eq_true e2, Bool.or_true, Bool.or_false, Bool.true_or, Bool.false_or, if_true, if_false, Bool.true_eq_false, Bool.false_eq_true, bI_t, bI_f]
        · cases had <;> cases ab <;> simp only [if_pos e1, if_neg e2, decide_eq_true e1, decide_eq_false e2, Bool.or_true, Bool.or_false, Bool.true_or, Bool.false_or, if_true, if_false, Bool.true_eq_false, Bool.false_eq_true, bI_t, bI_f]
      · by_cases e2 : (id < 16 ∧ r j = opk id)
        · cases had <;> cases ab <;> simp only [if_neg e1, if_pos e2, decide_eq_false e1, decide_eq_true e2, Bool.or_true, Bool.or_false, Bool.true_or, Bool.false_or, if_true, if_false, Bool.true_eq_false, Bool.false_eq_true, bI_t, bI_f]
        · cases had <;> cases ab <;> simp only [if_neg e1, if_neg e2, decide_eq_false e1, decide_eq_false e2, Bool.or_true, Bool.or_false, Bool.true_or, Bool.false_or, if_true, if_false, Bool.true_eq_false, Bool.false_eq_true, bI_t, bI_f]
    · have : j = row.length := by omega
      subst this
      simp (disch := omega) only [m14, nlt, Nat.lt_irrefl, if_false, bI_0']
      refine ⟨had, ab, ?_, ⟨fun q => Or.inl q, fun q => ?_⟩, ⟨fun q => Or.inl q, fun q => ?_⟩⟩
      · cases had
        · simp
        · simp
      · rcases q with q | ⟨i, q1, q2, -⟩
        · exact q
        · omega
      · rcases q with q | ⟨i, q1, q2, -⟩
        · exact q
        · omega
