def its1 (k : Nat) (t : T) : List T := if kind t = k then kids t else [t]
theorem items_cons (k : Nat) (t : T) (ts : List T) : items k (t :: ts) = its1 k t ++ items k ts := rfl
theorem items_nil (k : Nat) : items k [] = [] := rfl
theorem its1_len (k : Nat) (t : T) : (its1 k t).length = wdt k t := by
  unfold its1 wdt
  split <;> rfl
/-- the loop over the forms of a form that is opened (or over it alone) -/
theorem put_43 {tb : List T} {k : Nat} (hk : k = 20 ∨ k = 21) {id : Nat} (hid : id < 16 + tb.length) :
    ∀ (n i : Nat) (M : Mem) (its : List T), FT M tb → JS M tb k (its ++ (its1 k (dn tb id)).take i) → i ≤ (its1 k (dn tb id)).length → its.length + (its1 k (dn tb id)).length ≤ 2047 → (its1 k (dn tb id)).length < n + i →
      ∃ M', f_X0_put_43 n (nI id) (if kind (dn tb id) = k then nI 1 else nI 0) (nI (its1 k (dn tb id)).length) (nI i) M = some (nI 0, M') ∧ FT M' tb ∧ JS M' tb k (its ++ its1 k (dn tb id)) ∧ ∀ c, c ≠ 13 → c ≠ 15 → M' c = M c := by
  intro n
  induction n with
  | zero => intro i M its h1 h2 h3 h4 h5; omega
  | succ n ih =>
    intro i M its h hJ hi hb hn
    have hl := h.2.1
    have hrl := rowK_len k
    rw [f_X0_put_43]
    by_cases hin : i < (its1 k (dn tb id)).length
    · have hlen : (its1 k (dn tb id)).length ≤ 2047 := by omega
      have next : ∀ (x : T) (xi : Nat), xi < 16 + tb.length → dn tb xi = x → x = (its1 k (dn tb id))[i] → ∃ M', f_X0_put_67 (f_X0_put_43 n) (nI id) (if kind (dn tb id) = k then nI 1 else nI 0) (nI (its1 k (dn tb id)).length) (nI i) (nI xi) M = some (nI 0, M') ∧ FT M' tb ∧ JS M' tb k (its ++ its1 k (dn tb id)) ∧ ∀ c, c ≠ 13 → c ≠ 15 → M' c = M c := by
        intro x xi hxi hx hxe
        obtain ⟨M1, e1, f1, g1, o1⟩ := put_item (k43 := f_X0_put_43 n) h hk hJ (by rw [List.length_append, List.length_take]; omega) hxi hx (x1 := nI id) (x2 := if kind (dn tb id) = k then nI 1 else nI 0) (x3 := nI (its1 k (dn tb id)).length) (x4 := nI i)
        rw [e1, nI_add]
        have hJ1 : JS M1 tb k (its ++ (its1 k (dn tb id)).take (i + 1)) := by
          rw [List.take_succ_eq_append_getElem hin, ← List.append_assoc, ← hxe]
          exact g1
        obtain ⟨M2, e2, f2, g2, o2⟩ := ih (i + 1) M1 its f1 hJ1 (by omega) hb (by omega)
        exact ⟨M2, e2, f2, g2, fun c a b => by rw [o2 c a b, o1 c a b]⟩
      rw [if_pos ((nlt (by omega) (by omega)).mpr hin)]
      by_cases hkk : kind (dn tb id) = k
      · have e1 : its1 k (dn tb id) = kids (dn tb id) := if_pos hkk
        have hid16 : 16 ≤ id := by
          by_cases q : id < 16
          · rw [dn_lf q, kind_lf] at hkk
            omega
          · omega
        have hj : i < nkid (dn tb id) := by rw [e1] at hin; exact hin
        obtain ⟨xi, q1, q2, q3⟩ := kid_ok h hid16 hid hj
        have := next _ xi (by omega) rfl (by rw [q3]; simp only [e1])
        simp only [hkk, if_true] at this ⊢
        simp (disch := omega) only [neq, show ¬ (1 : Nat) = 0 by omega, if_false, q2, Option.bind_some]
        exact this
      · have e1 : its1 k (dn tb id) = [dn tb id] := if_neg hkk
        have hi0 : i = 0 := by rw [e1] at hin; simp at hin; exact hin
        have := next _ id hid rfl (by simp [e1, hi0])
        simp only [hkk, if_false] at this ⊢
        simp only [if_true]
        exact this
    · have hie : i = (its1 k (dn tb id)).length := by omega
      rw [if_neg (fun q => hin ((nlt (by omega) (by omega)).mp q))]
      rw [hie, List.take_length] at hJ
      exact ⟨M, rfl, h, hJ, fun _ _ _ => rfl⟩
theorem put_ok {M : Mem} {tb : List T} (h : FT M tb) {k : Nat} (hk : k = 20 ∨ k = 21) {its : List T} (hJ : JS M tb k its) {id : Nat} (hid : id < 16 + tb.length) (hb : its.length + wdt k (dn tb id) ≤ 2047) : ∃ M', f_X0_put (nI id) M = some (nI 0, M') ∧ FT M' tb ∧ JS M' tb k (its ++ its1 k (dn tb id)) ∧ ∀ c, c ≠ 13 → c ≠ 15 → M' c = M c := by
  have hl := h.2.1
  have aa := h.2.2.2.2.2.1 id hid
  have hA := AR_le (dn_AR h.1 hid)
  rw [← its1_len] at hb
  obtain ⟨M', e1, e2⟩ := put_43 hk hid fuelN 0 M its h (by rw [List.take_zero, List.append_nil]; exact hJ) (Nat.zero_le _) hb (by unfold fuelN; omega)
  refine ⟨M', ?_, e2⟩
  rw [← e1]
  unfold f_X0_put f_X0_put_21 f_X0_put_39
  simp (disch := omega) only [mrd_n, Option.bind_some, aa.1, hJ.1, neq]
  by_cases hkk : kind (dn tb id) = k
  · have q : its1 k (dn tb id) = kids (dn tb id) := if_pos hkk
    simp (disch := omega) only [hkk, if_true, neq, show ¬ (1 : Nat) = 0 by omega, if_false, mrd_n, Option.bind_some, aa.2.1, q]
  · have q : its1 k (dn tb id) = [dn tb id] := if_neg hkk
    simp only [hkk, if_false, if_true, q, List.length_singleton]
theorem begin_ok {M : Mem} {tb : List T} (h : FT M tb) (k : Nat) : ∃ M', f_X0_begin (nI k) M = some (nI 0, M') ∧ FT M' tb ∧ JS M' tb k [] ∧ ∀ c, c ≠ 13 → M' c = M c := by
  unfold f_X0_begin
  simp only [mpi_n, Option.bind_some]
  generalize hM' : mwr (mwr (mwr M 13 4 (nI k)) 13 5 (nI 0)) 13 6 (nI 0) = M'
  have far : ∀ c, c ≠ 13 → M' c = M c := fun c a => by rw [← hM', mwr_ne _ _ _ a, mwr_ne _ _ _ a, mwr_ne _ _ _ a]
  refine ⟨M', rfl, h.congr (fun c a b => far c (by omega)), ⟨?_, allAR_nil, ⟨0, by omega, ?_, fun i _ => ?_⟩, fun _ => 0, ?_, fun j hj => absurd hj (by show ¬ j < 0; omega)⟩, far⟩
  · rw [← hM', mwr_in _ (by omega), mwr_in _ (by omega), mwr_at]
  · rw [← hM', mwr_at]
  · rw [Nat.zero_testBit]; rfl
  · rw [← hM', mwr_in _ (by omega), mwr_at]
    rfl
theorem and_bit {m d : Nat} : (m &&& 2 ^ d = 0) ↔ m.testBit d = false := by
  constructor
  · intro h
    have := congrArg (fun n => n.testBit d) h
    simp at this
    exact this
  · intro h
    apply Nat.eq_of_testBit_eq
    intro i
    rw [Nat.testBit_and, Nat.testBit_two_pow, Nat.zero_testBit]
    by_cases hi : d = i
    · subst hi
      rw [h]
      rfl
    · simp [hi]
theorem and_12 {m : Nat} (hm : m < 65536) : (m &&& 12 = 12) ↔ (m.testBit 2 = true ∧ m.testBit 3 = true) := by
  constructor
  · intro h
    have h2 := congrArg (fun n => n.testBit 2) h
    have h3 := congrArg (fun n => n.testBit 3) h
    simp only [Nat.testBit_and] at h2 h3
    have e2 : Nat.testBit 12 2 = true := by decide
    have e3 : Nat.testBit 12 3 = true := by decide
    rw [e2, Bool.and_true] at h2
    rw [e3, Bool.and_true] at h3
    exact ⟨h2, h3⟩
  · rintro ⟨h2, h3⟩
    apply Nat.eq_of_testBit_eq
    intro i
    rw [Nat.testBit_and]
    by_cases hi2 : i = 2
    · subst hi2; rw [h2]; rfl
    · by_cases hi3 : i = 3
      · subst hi3; rw [h3]; rfl
      · have e : Nat.testBit 12 i = false := by
          by_cases hi : i < 4
          · rcases (show i = 0 ∨ i = 1 by omega) with rfl | rfl <;> decide
          · exact Nat.testBit_lt_two_pow (Nat.lt_of_lt_of_le (by decide : 12 < 2 ^ 4) (Nat.pow_le_pow_right (by omega) (by omega)))
        rw [e, Bool.and_false]
theorem and_sh {m : Nat} (hm : m < 65536) : (m / 2 ^ 4 &&& m / 2 ^ 10 = 0) ↔ ((List.range 6).any fun s => m.testBit (4 + s) && m.testBit (10 + s)) = false := by
  rw [List.any_eq_false]
  constructor
  · intro h s hs
    have := congrArg (fun n => n.testBit s) h
    simp only [Nat.testBit_and, Nat.testBit_div_two_pow, Nat.zero_testBit] at this
    rw [Nat.add_comm 4 s, Nat.add_comm 10 s, this]
    decide
  · intro h
    apply Nat.eq_of_testBit_eq
    intro i
    rw [Nat.testBit_and, Nat.testBit_div_two_pow, Nat.testBit_div_two_pow, Nat.zero_testBit]
    by_cases hi : i < 6
    · have := h i (List.mem_range.mpr hi)
      rw [Nat.add_comm 4 i, Nat.add_comm 10 i] at this
      simpa using this
    · have e : m.testBit (i + 10) = false := Nat.testBit_lt_two_pow (Nat.lt_of_lt_of_le (by omega : m < 2 ^ 16) (Nat.pow_le_pow_right (by omega) (by omega)))
      rw [e, Bool.and_false]
theorem shr_n {m s : Nat} (hm : m < 65536) (hs : s = 4 ∨ s = 10) : nI m >>> (nI s &&& nI 31) = nI (m / 2 ^ s) := by
  refine pk_shrN (by omega) _ s ?_
  rcases hs with rfl | rfl <;> decide
/-- the capacity that a node of a row wants -/
def Cap (tb : List T) (n : Nat) : Prop := tb.length < 2032 ∧ stof tb tb.length + n ≤ 8192
theorem done_ok {M : Mem} {tb : List T} (h : FT M tb) {k : Nat} (hk : k = 20 ∨ k = 21) {its : List T} (hJ : JS M tb k its) (hlen : its.length ≤ 2047) (hcap : joinI k its ∉ tb → 2 ≤ (rowK k its).length → Cap tb (rowK k its).length) : ∃ (id : Nat) (M' : Mem) (tc : List T), f_X0_done M = some (nI id, M') ∧ FT M' (tb ++ tc) ∧ id < 16 + (tb ++ tc).length ∧ dn (tb ++ tc) id = joinI k its ∧ ((tc = [] ∧ M' = M) ∨ (tc = [joinI k its] ∧ joinI k its = nd k (rowK k its))) ∧ ∀ c, c = 0 ∨ 13 ≤ c → M' c = M c := by
  have hl := h.2.1
  obtain ⟨j1, j2, ⟨m, m1, m2, m3⟩, r, j3, j4⟩ := hJ
  have hrl := rowK_len k its
  have hnk := neu_lt k
  unfold f_X0_done
  rw [neutral_ok (show k < 32 by omega) j1, Option.bind_some]
  simp only [m2]
  rw [nsub (show neu k ≤ 1 by omega), shl1 (1 - neu k) (by omega), nI_and]
  have hA : ∀ s0 s1 s2 : Nat, s0 < 2 → s1 < 2 → s2 < 2 → (s0 ≠ 0 ∨ s1 ≠ 0 ∨ s2 ≠ 0 ↔ absb k its = true) → ∃ (id : Nat) (M' : Mem) (tc : List T), f_X0_done_67 (nI (neu k)) (nI (1 - neu k)) (nI s0) (nI s1) (nI s2) M = some (nI id, M') ∧ FT M' (tb ++ tc) ∧ id < 16 + (tb ++ tc).length ∧ dn (tb ++ tc) id = joinI k its ∧ ((tc = [] ∧ M' = M) ∨ (tc = [joinI k its] ∧ joinI k its = nd k (rowK k its))) ∧ ∀ c, c = 0 ∨ 13 ≤ c → M' c = M c := by
    intro s0 s1 s2 b0 b1 b2 hiff
    have leaf : ∀ {i : Nat}, i < 16 → joinI k its = lf i → ∃ (id : Nat) (M' : Mem) (tc : List T), (some (nI i, M) : Option Rv) = some (nI id, M') ∧ FT M' (tb ++ tc) ∧ id < 16 + (tb ++ tc).length ∧ dn (tb ++ tc) id = joinI k its ∧ ((tc = [] ∧ M' = M) ∨ (tc = [joinI k its] ∧ joinI k its = nd k (rowK k its))) ∧ ∀ c, c = 0 ∨ 13 ≤ c → M' c = M c := fun {i} hi he => ⟨i, M, [], rfl, by rw [List.append_nil]; exact h, by omega, by rw [dn_lf hi, he], Or.inl ⟨rfl, rfl⟩, fun _ _ => rfl⟩
    unfold f_X0_done_67 f_X0_done_83 f_X0_done_131
    cases hab : absb k its with
    | true =>
      have hj : joinI k its = lf (1 - neu k) := by unfold joinI endT; rw [if_pos hab]
      have := leaf (i := 1 - neu k) (by omega) hj
      have hne := hiff.mpr hab
      simp (disch := omega) only [neq]
      by_cases c0 : s0 = 0
      · by_cases c1 : s1 = 0
        · have c2 : ¬ s2 = 0 := by omega
          simp only [c0, c1, c2, if_true, if_false]
          exact this
        · simp only [c0, c1, if_true, if_false]
          exact this
      · simp only [c0, if_false]
        exact this
    | false =>
      have hz : s0 = 0 ∧ s1 = 0 ∧ s2 = 0 := by
        have : ¬ (s0 ≠ 0 ∨ s1 ≠ 0 ∨ s2 ≠ 0) := fun q => by rw [hiff.mp q] at hab; cases hab
        omega
      obtain ⟨rfl, rfl, rfl⟩ := hz
      have hj : joinI k its = endT k false (rowK k its) := by unfold joinI rowK; rw [hab]
      rw [j3, j1]
      simp (disch := omega) only [if_true, neq]
      generalize hrow : rowK k its = row at *
      match row, hrow with
      | [], hrow =>
        simp only [List.length_nil, if_true]
        exact leaf (i := neu k) (by omega) (by rw [hj]; rfl)
      | [x], hrow =>
        obtain ⟨r1, r2, r3⟩ := j4 0 (by simp)
        rw [Nat.zero_add] at r2
        simp (disch := omega) only [List.length_singleton, show ¬ (1 : Nat) = 0 by omega, if_false, if_true, mrd_n, Option.bind_some, r2]
        exact ⟨r 0, M, [], rfl, by rw [List.append_nil]; exact h, by rw [List.append_nil]; exact r1, by rw [List.append_nil, r3, hj]; rfl, Or.inl ⟨rfl, rfl⟩, fun _ _ => rfl⟩
      | x :: y :: l, hrow =>
        have hj2 : joinI k its = nd k (x :: y :: l) := by rw [hj]; rfl
        simp only [List.length_cons, show ¬ (l.length + 1 + 1 = 0) by omega, show ¬ (l.length + 1 + 1 = 1) by omega, if_false]
        have hAR : AR (nd k (x :: y :: l)) = true := by rw [← hj2]; exact joinI_AR hk j2
        obtain ⟨id, M', tc, g1, g2, g3, g4, g5, g6⟩ := make_ok h (k := k) (a := 15) (f := 0) (ts := x :: y :: l) (r := r) (by omega) hAR (fun hn => hcap (by rw [hj2]; exact hn) (by simp)) (by omega) (by unfold rlen; rw [if_pos rfl]; simp only [List.length_cons] at hrl ⊢; omega) j4
        rw [show (l.length + 1 + 1) = (x :: y :: l).length by simp, g1, Option.bind_some]
        refine ⟨id, M', tc, rfl, g2, g3, by rw [g4, hj2], ?_, g6⟩
        rcases g5 with ⟨a, b⟩ | ⟨a, -⟩
        · exact Or.inl ⟨a, b⟩
        · exact Or.inr ⟨by rw [a, hj2], hj2⟩
  have habs : absb k its = (m.testBit (1 - neu k) || (m.testBit 2 && m.testBit 3) || (List.range 6).any fun s => m.testBit (4 + s) && m.testBit (10 + s)) := by
    unfold absb
    rw [m3 _ (by omega), m3 2 (by omega), m3 3 (by omega)]
    congr 1
    have : ∀ l : List Nat, (∀ s ∈ l, s < 6) → (l.any fun s => has its (4 + s) && has its (10 + s)) = l.any fun s => m.testBit (4 + s) && m.testBit (10 + s) := by
      intro l
      induction l with
      | nil => intro _; rfl
      | cons a l ih =>
        intro hl
        rw [List.any_cons, List.any_cons, ih (fun s hs => hl s (List.mem_cons_of_mem _ hs)), m3 (4 + a) (by have := hl a List.mem_cons_self; omega), m3 (10 + a) (by have := hl a List.mem_cons_self; omega)]
    exact this _ (fun s hs => List.mem_range.mp hs)
  have hm12 : m &&& 12 < 65536 := Nat.lt_of_le_of_lt Nat.and_le_left m1
  have hm2 : m &&& 2 ^ (1 - neu k) < 65536 := Nat.lt_of_le_of_lt Nat.and_le_left m1
  have hm3 : m / 2 ^ 4 &&& m / 2 ^ 10 < 65536 := Nat.lt_of_le_of_lt Nat.and_le_left (Nat.lt_of_le_of_lt (Nat.div_le_self _ _) m1)
  unfold f_X0_done_25 f_X0_done_43
  simp only [m2]
  rw [shr_n m1 (Or.inl rfl), shr_n m1 (Or.inr rfl), nI_and, nI_and]
  simp (disch := omega) only [neq, and_bit, and_12 m1, and_sh m1]
  have fin : ∀ (p0 p1 p2 : Bool), m.testBit (1 - neu k) = p0 → (m.testBit 2 && m.testBit 3) = p1 → ((List.range 6).any fun s => m.testBit (4 + s) && m.testBit (10 + s)) = p2 → absb k its = (p0 || p1 || p2) := fun p0 p1 p2 a b c => by rw [habs, a, b, c]
  cases h0 : m.testBit (1 - neu k) with
  | false =>
    simp only [if_true]
    by_cases h1 : m.testBit 2 = true ∧ m.testBit 3 = true
    · rw [if_pos h1]
      cases h2 : ((List.range 6).any fun s => m.testBit (4 + s) && m.testBit (10 + s)) with
      | false => exact hA 0 1 0 (by omega) (by omega) (by omega) (by rw [fin _ _ _ h0 (show (m.testBit 2 && m.testBit 3) = true by simp [h1.1, h1.2]) h2]; simp)
      | true => exact hA 0 1 1 (by omega) (by omega) (by omega) (by rw [fin _ _ _ h0 (show (m.testBit 2 && m.testBit 3) = true by simp [h1.1, h1.2]) h2]; simp)
    · rw [if_neg h1]
      have h1' : (m.testBit 2 && m.testBit 3) = false := by
        cases a : m.testBit 2 <;> cases b : m.testBit 3 <;> simp_all
      cases h2 : ((List.range 6).any fun s => m.testBit (4 + s) && m.testBit (10 + s)) with
      | false => exact hA 0 0 0 (by omega) (by omega) (by omega) (by rw [fin _ _ _ h0 h1' h2]; simp)
      | true => exact hA 0 0 1 (by omega) (by omega) (by omega) (by rw [fin _ _ _ h0 h1' h2]; simp)
  | true =>
    simp only [Bool.true_eq_false, if_false]
    by_cases h1 : m.testBit 2 = true ∧ m.testBit 3 = true
    · rw [if_pos h1]
      cases h2 : ((List.range 6).any fun s => m.testBit (4 + s) && m.testBit (10 + s)) with
      | false => exact hA 1 1 0 (by omega) (by omega) (by omega) (by rw [fin _ _ _ h0 (show (m.testBit 2 && m.testBit 3) = true by simp [h1.1, h1.2]) h2]; simp)
      | true => exact hA 1 1 1 (by omega) (by omega) (by omega) (by rw [fin _ _ _ h0 (show (m.testBit 2 && m.testBit 3) = true by simp [h1.1, h1.2]) h2]; simp)
    · rw [if_neg h1]
      have h1' : (m.testBit 2 && m.testBit 3) = false := by
        cases a : m.testBit 2 <;> cases b : m.testBit 3 <;> simp_all
      cases h2 : ((List.range 6).any fun s => m.testBit (4 + s) && m.testBit (10 + s)) with
      | false => exact hA 1 0 0 (by omega) (by omega) (by omega) (by rw [fin _ _ _ h0 h1' h2]; simp)
      | true => exact hA 1 0 1 (by omega) (by omega) (by omega) (by rw [fin _ _ _ h0 h1' h2]; simp)
