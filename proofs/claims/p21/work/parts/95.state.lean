/-! WISHES AND STATES -/
abbrev Wsh : Type := Bool × Nat × Int32 × Int32 × Nat × List T
abbrev Sta : Type := Bool × List Nat × List Wsh
abbrev wP (w : Wsh) : List T := w.2.2.2.2.2
def okP (l : List T) : Prop := 1 ≤ l.length ∧ l.length ≤ 8 ∧ ∀ t ∈ l, AR t = true ∧ size t ≤ 120
def okW (w : Wsh) : Prop := w.2.1 ≤ 2 ∧ w.2.2.2.2.1 ≤ 40 ∧ okP (wP w)
def okS (s : Sta) : Prop := s.2.1.length ≤ 40 ∧ (∀ e ∈ s.2.1, e < 64) ∧ s.2.2.length ≤ 8 ∧ ∀ w ∈ s.2.2, okW w
/-! in the class: a wish at the cell cw, a state at the cell c -/
def RCw (M : Mem) (cw : Nat) (w : Wsh) : Prop := M cw 0 = bI w.1 ∧ M cw 1 = nI w.2.1 ∧ M cw 2 = nI (wP w).length ∧ M cw 3 = w.2.2.1 ∧ M cw 4 = w.2.2.2.1 ∧ M cw 5 = nI w.2.2.2.2.1 ∧ ∀ p (h : p < (wP w).length), CP M cw p (wP w)[p]
def RC (M : Mem) (c : Nat) (s : Sta) : Prop := M c 0 = bI s.1 ∧ M c 1 = nI s.2.1.length ∧ M c 2 = nI s.2.2.length ∧ (∀ i (h : i < s.2.1.length), M (c + 1) i = nI s.2.1[i]) ∧ ∀ k (h : k < s.2.2.length), RCw M (c + 3 + 3 * k) s.2.2[k]
theorem RCw.congr {M M' : Mem} {cw : Nat} {w : Wsh} (h : RCw M cw w) (h0 : M' cw = M cw) (h1 : M' (cw + 1) = M (cw + 1)) (h2 : M' (cw + 2) = M (cw + 2)) : RCw M' cw w := by
  obtain ⟨a, b, c, d, e, f, g⟩ := h
  refine ⟨by rw [h0]; exact a, by rw [h0]; exact b, by rw [h0]; exact c, by rw [h0]; exact d, by rw [h0]; exact e, by rw [h0]; exact f, fun p hp => ⟨by rw [h1]; exact (g p hp).1, (g p hp).2.congr h2⟩⟩
theorem RC.congr {M M' : Mem} {c : Nat} {s : Sta} (h : RC M c s) (hs : okS s) (hm : ∀ d, c ≤ d → d < c + 27 → M' d = M d) : RC M' c s := by
  obtain ⟨a, b, e, f, g⟩ := h
  have := hs.2.2.1
  refine ⟨by rw [hm c (by omega) (by omega)]; exact a, by rw [hm c (by omega) (by omega)]; exact b, by rw [hm c (by omega) (by omega)]; exact e, fun i hi => by rw [hm (c + 1) (by omega) (by omega)]; exact f i hi, fun k hk => (g k hk).congr (hm _ (by omega) (by omega)) (hm _ (by omega) (by omega)) (hm _ (by omega) (by omega))⟩
/-! the parts that are 0, or 1 -/
def pth (i : Nat) (l : List T) : Nat → Nat
  | 0 => 0
  | n + 1 => pth i l n ||| (if kind (l.getD n (lf 2)) = i then 2 ^ n else 0)
theorem pth_succ (i : Nat) (l : List T) (n : Nat) : pth i l (n + 1) = pth i l n ||| (if kind (l.getD n (lf 2)) = i then 2 ^ n else 0) := rfl
theorem pth_lt (i : Nat) (l : List T) : ∀ n, pth i l n < 2 ^ n := by
  intro n
  induction n with
  | zero => exact Nat.one_pos
  | succ n ih =>
    unfold pth
    have h1 : pth i l n < 2 ^ (n + 1) := Nat.lt_of_lt_of_le ih (Nat.pow_le_pow_right (by omega) (by omega))
    have h2 : (if kind (l.getD n (lf 2)) = i then 2 ^ n else 0 : Nat) < 2 ^ (n + 1) := by
      split
      · exact Nat.pow_lt_pow_right (by omega) (by omega)
      · exact Nat.pow_pos (by omega)
    exact Nat.or_lt_two_pow h1 h2
theorem pth_lt' {i : Nat} {l : List T} {n : Nat} (h : n ≤ 8) : pth i l n < 256 := by
  have := pth_lt i l n
  have : (2 : Nat) ^ n ≤ 2 ^ 8 := Nat.pow_le_pow_right (by omega) h
  omega
theorem pth_bit (i : Nat) (l : List T) : ∀ n p, (pth i l n).testBit p = (decide (p < n) && decide (kind (l.getD p (lf 2)) = i)) := by
  intro n
  induction n with
  | zero => intro p; simp [pth]
  | succ n ih =>
    intro p
    unfold pth
    rw [Nat.testBit_or, ih]
    by_cases hk : kind (l.getD n (lf 2)) = i
    · rw [if_pos hk, Nat.testBit_two_pow]
      by_cases hp : n = p
      · subst hp
        rw [decide_eq_true hk]; simp
      · have : decide (p < n + 1) = decide (p < n) := by
          by_cases q : p < n
          · rw [decide_eq_true q, decide_eq_true (by omega)]
          · rw [decide_eq_false q, decide_eq_false (by omega)]
        rw [this]
        simp [hp]
    · rw [if_neg hk, Nat.zero_testBit, Bool.or_false]
      by_cases hp : n = p
      · subst hp
        rw [decide_eq_false hk]; simp
      · have : decide (p < n + 1) = decide (p < n) := by
          by_cases q : p < n
          · rw [decide_eq_true q, decide_eq_true (by omega)]
          · rw [decide_eq_false q, decide_eq_false (by omega)]
        rw [this]
theorem getD_mem {l : List T} {p : Nat} (h : p < l.length) : l.getD p (lf 2) = l[p] := by
  rw [List.getD_eq_getElem?_getD, List.getElem?_eq_getElem h]
  rfl
theorem pth_0 (i : Nat) (l : List T) : pth i l l.length = 0 ↔ ∀ t ∈ l, kind t ≠ i := by
  constructor
  · intro h t ht e
    obtain ⟨p, hp, rfl⟩ := List.getElem_of_mem ht
    have := pth_bit i l l.length p
    rw [h, Nat.zero_testBit, decide_eq_true hp, getD_mem hp, decide_eq_true e] at this
    cases this
  · intro h
    apply Nat.eq_of_testBit_eq
    intro p
    rw [pth_bit, Nat.zero_testBit]
    by_cases hp : p < l.length
    · rw [getD_mem hp, decide_eq_false (h _ (List.getElem_mem hp)), Bool.and_false]
    · rw [decide_eq_false hp, Bool.false_and]
theorem pth_1 (i : Nat) (l : List T) : pth i l l.length = 2 ^ l.length - 1 ↔ ∀ t ∈ l, kind t = i := by
  constructor
  · intro h t ht
    obtain ⟨p, hp, rfl⟩ := List.getElem_of_mem ht
    have := pth_bit i l l.length p
    rw [h, Nat.testBit_two_pow_sub_one, decide_eq_true hp, getD_mem hp] at this
    simpa using this.symm
  · intro h
    apply Nat.eq_of_testBit_eq
    intro p
    rw [pth_bit, Nat.testBit_two_pow_sub_one]
    by_cases hp : p < l.length
    · rw [getD_mem hp, decide_eq_true (h _ (List.getElem_mem hp)), Bool.and_true]
    · rw [decide_eq_false hp, Bool.false_and]
/-- the verdict of parts -/
def wv (l : List T) : Nat := if (l.any fun t => kind t == 0) = true then 0 else if (l.all fun t => kind t == 1) = true then 1 else 2
theorem wv_le (l : List T) : wv l ≤ 2 := by
  unfold wv
  repeat' split
  all_goals omega
theorem any_pth (l : List T) : ((l.any fun t => kind t == 0) = true) = ¬ (pth 0 l l.length = 0) := by
  apply propext
  rw [pth_0, List.any_eq_true]
  constructor
  · rintro ⟨t, ht, h⟩ q
    exact q t ht (by simpa using h)
  · intro q
    by_cases h : ∃ t ∈ l, kind t = 0
    · obtain ⟨t, ht, h⟩ := h
      exact ⟨t, ht, by simpa using h⟩
    · exact absurd (fun t ht e => h ⟨t, ht, e⟩) q
theorem all_pth (l : List T) : ((l.all fun t => kind t == 1) = true) = (pth 1 l l.length = 2 ^ l.length - 1) := by
  apply propext
  rw [pth_1, List.all_eq_true]
  simp
/-! the class's small functions -/
theorem shl1' {i : Nat} (h : i < 16) : nI 1 <<< (nI i &&& nI 31) = nI (2 ^ i) := shl1 i h
theorem CP_code {M : Mem} {cw p : Nat} {t : T} (h : CP M cw p t) : M (cw + 2) (p * 120) = nI (kind t + 32 * nkid t) := by
  have hc := codes_nd (kind t) (kids t)
  rw [nd_eta] at hc
  have := h.2 0 (by rw [hc]; simp)
  simp only [hc, List.getElem_cons_zero, Nat.add_zero] at this
  exact this
theorem code_leaf {t : T} (hA : AR t = true) (hs : size t ≤ 120) {i : Nat} (hi : i < 16) : (nI (kind t + 32 * nkid t) = nI i) = (kind t = i) := by
  have h1 := AR_le hA
  have h2 := len_le_size (kids t)
  have h3 := size_eq t
  have h4 : nkid t ≤ 120 := by show (kids t).length ≤ 120; omega
  apply propext
  rw [neq (by omega) (by omega)]
  constructor
  · intro e; omega
  · intro e
    have := AR_leaf hA (by omega)
    have h5 : nkid t = 0 := by
      show (kids t).length = 0
      rw [this, kids_lf]; rfl
    omega
theorem parts_4 {M : Mem} {cw : Nat} {l : List T} (hl : okP l) (h2 : M cw 2 = nI l.length) (hP : ∀ p (h : p < l.length), CP M cw p l[p]) {i : Nat} (hi : i < 16) : ∀ (n p : Nat), p ≤ l.length → l.length - p < n → f_X5_partsThatAre_4 n cw (nI i) (nI (pth i l p)) (nI p) M = some (nI (pth i l l.length), M) := by
  have h8 := hl.2.1
  intro n
  induction n with
  | zero => intro p _ h; omega
  | succ n ih =>
    intro p h3 h4
    rw [f_X5_partsThatAre_4, h2]
    unfold f_X5_partsThatAre_31
    by_cases hp : p < l.length
    · rw [if_pos ((nlt (by omega) (by omega)).mpr hp), nmul, mrd_n (by omega) (by omega), Option.bind_some, CP_code (hP p hp)]
      obtain ⟨a1, a2⟩ := hl.2.2 l[p] (List.getElem_mem hp)
      have hpt := ih (p + 1) (by omega) (by omega)
      rw [pth_succ, getD_mem hp] at hpt
      simp only [code_leaf a1 a2 hi]
      by_cases e : kind l[p] = i
      · rw [if_pos e, shl1' (by omega), nI_or, nI_add]
        rw [if_pos e] at hpt
        exact hpt
      · rw [if_neg e, nI_add]
        rw [if_neg e, Nat.or_zero] at hpt
        exact hpt
    · have : p = l.length := by omega
      subst this
      rw [if_neg (fun q => hp ((nlt (by omega) (by omega)).mp q))]
theorem partsThat_ok {M : Mem} {cw : Nat} {l : List T} (hl : okP l) (h2 : M cw 2 = nI l.length) (hP : ∀ p (h : p < l.length), CP M cw p l[p]) {i : Nat} (hi : i < 16) : f_X5_partsThatAre cw (nI i) M = some (nI (pth i l l.length), M) :=
  parts_4 hl h2 hP hi fuelN 0 (by omega) (by have := hl.2.1; unfold fuelN; omega)
theorem pow8 {n : Nat} (h : n ≤ 8) : 2 ^ n ≤ 256 ∧ 1 ≤ 2 ^ n := ⟨Nat.pow_le_pow_right (n := 2) (by omega) h, Nat.one_le_two_pow⟩
theorem verdictOf_ok {M : Mem} {cw : Nat} {l : List T} (hl : okP l) (h2 : M cw 2 = nI l.length) (hP : ∀ p (h : p < l.length), CP M cw p l[p]) : f_X5_verdictOfParts cw M = some (nI (wv l), M) := by
  have h8 := hl.2.1
  have h0 := pth_lt' (i := 0) (l := l) h8
  have h1 := pth_lt' (i := 1) (l := l) h8
  obtain ⟨p1, p2⟩ := pow8 h8
  unfold f_X5_verdictOfParts f_X5_verdictOfParts_31
  rw [partsThat_ok hl h2 hP (show 0 < 16 by omega), Option.bind_some, partsThat_ok hl h2 hP (show 1 < 16 by omega), Option.bind_some]
  have e2 : nI 1 <<< (M cw 2 &&& nI 31) - nI 1 = nI (2 ^ l.length - 1) := by
    rw [h2, shl1 l.length (by omega)]
    exact nsub p2
  simp only [e2]
  unfold wv
  simp only [any_pth, all_pth]
  simp (disch := omega) only [neq]
  by_cases a : pth 0 l l.length = 0
  · rw [if_pos a, if_neg (show ¬ ¬ pth 0 l l.length = 0 from fun q => q a)]
    by_cases b : pth 1 l l.length = 2 ^ l.length - 1
    · rw [if_pos b, if_pos b]
    · rw [if_neg b, if_neg b]
  · rw [if_neg a, if_pos a]
def ssum (l : List T) : Nat := (l.map size).sum
theorem sizes_4 {M : Mem} {cw : Nat} {l : List T} (hl : okP l) (h2 : M cw 2 = nI l.length) (hP : ∀ p (h : p < l.length), CP M cw p l[p]) : ∀ (n p : Nat), p ≤ l.length → l.length - p < n → f_X5_sizeOfParts_4 n cw (nI (ssum (l.take p))) (nI p) M = some (nI (ssum l), M) := by
  have h8 := hl.2.1
  intro n
  induction n with
  | zero => intro p _ h; omega
  | succ n ih =>
    intro p h3 h4
    rw [f_X5_sizeOfParts_4, h2]
    by_cases hp : p < l.length
    · rw [if_pos ((nlt (by omega) (by omega)).mpr hp), mrd_n (by omega) (by omega), Option.bind_some, (hP p hp).1, nI_add, nI_add]
      have e : ssum (l.take (p + 1)) = ssum (l.take p) + size l[p] := take_sum size hp
      rw [← e]
      exact ih (p + 1) (by omega) (by omega)
    · have : p = l.length := by omega
      subst this
      rw [if_neg (fun q => hp ((nlt (by omega) (by omega)).mp q)), List.take_length]
theorem sizeOf_ok {M : Mem} {cw : Nat} {l : List T} (hl : okP l) (h2 : M cw 2 = nI l.length) (hP : ∀ p (h : p < l.length), CP M cw p l[p]) : f_X5_sizeOfParts cw M = some (nI (ssum l), M) :=
  sizes_4 hl h2 hP fuelN 0 (by omega) (by have := hl.2.1; unfold fuelN; omega)
theorem ssum_le {l : List T} (hl : okP l) : ssum l ≤ 960 := by
  have h : ∀ l : List T, (∀ t ∈ l, size t ≤ 120) → ssum l ≤ 120 * l.length := by
    intro l
    induction l with
    | nil => intro _; exact Nat.le_refl _
    | cons a l ih =>
      intro h
      have h1 := h a List.mem_cons_self
      have h2 := ih (fun t ht => h t (List.mem_cons_of_mem _ ht))
      unfold ssum at h2 ⊢
      simp only [List.map_cons, List.sum_cons, List.length_cons]
      omega
  have := h l (fun t ht => (hl.2.2 t ht).2)
  have := hl.2.1
  omega
/-! references to cells -/
def isSc (c : Nat) : Prop := c = 29 ∨ c = 56 ∨ c = 83 ∨ c = 110 ∨ c = 137 ∨ c = 164 ∨ c = 191
theorem mlS_ok {c : Nat} (h : isSc c) : mlS (nI c) = some c := by
  unfold mlS
  have hc : (nI c).toNatClampNeg = c := ncl (by rcases h with rfl | rfl | rfl | rfl | rfl | rfl | rfl <;> omega)
  rw [hc]
  rcases h with rfl | rfl | rfl | rfl | rfl | rfl | rfl <;> rfl
theorem mlW_ok {c k : Nat} (h : k < 8) : mlW c (nI k) = some (c + 3 + 3 * k) := by
  unfold mlW
  rw [if_neg (nI_in h (by omega)), ncl (by omega)]
theorem maW_ok {c k : Nat} (h : isSc c) (hk : k < 8) : maW (nI (c + 3 + 3 * k)) = some (c + 3 + 3 * k) := by
  unfold maW
  have hc : (nI (c + 3 + 3 * k)).toNatClampNeg = c + 3 + 3 * k := ncl (by rcases h with rfl | rfl | rfl | rfl | rfl | rfl | rfl <;> omega)
  rw [hc]
  have hk8 : k = 0 ∨ k = 1 ∨ k = 2 ∨ k = 3 ∨ k = 4 ∨ k = 5 ∨ k = 6 ∨ k = 7 := by omega
  rcases h with rfl | rfl | rfl | rfl | rfl | rfl | rfl <;> rcases hk8 with rfl | rfl | rfl | rfl | rfl | rfl | rfl | rfl <;> rfl
theorem isSc_ge {c : Nat} (h : isSc c) : 29 ≤ c ∧ c ≤ 191 := by rcases h with rfl | rfl | rfl | rfl | rfl | rfl | rfl <;> omega
theorem isSc_far {c d : Nat} (h : isSc c) (g : isSc d) (hne : c ≠ d) : c + 27 ≤ d ∨ d + 27 ≤ c := by
  rcases h with rfl | rfl | rfl | rfl | rfl | rfl | rfl <;> rcases g with rfl | rfl | rfl | rfl | rfl | rfl | rfl <;> omega
/-- a wish by its number -/
def fndP (s : Sta) (x : Int32) (k : Nat) : Prop := x = nI k ∧ ∃ h : k < s.2.2.length, s.2.2[k].1 = true
theorem find_ok {M : Mem} {c : Nat} {s : Sta} (hc : isSc c) (h : RC M c s) (hs : okS s) (x : Int32) : (∃ k, fndP s x k ∧ f_X4_find c x M = some (nI (c + 3 + 3 * k), M)) ∨ ((∀ k, ¬ fndP s x k) ∧ f_X4_find c x M = some (nI 0, M)) := by
  obtain ⟨-, -, h2, -, h5⟩ := h
  have h8 := hs.2.2.1
  unfold f_X4_find f_X4_find_24
  rw [h2]
  rcases pk_ix x (n := s.2.2.length) (by omega) with q | q | ⟨k, hk, rfl⟩
  · rw [if_pos (show x < nI 0 from q)]
    refine Or.inr ⟨fun k hk => ?_, rfl⟩
    obtain ⟨rfl, hk, -⟩ := hk
    exact nI_pos (by omega) q
  · have h1 : ¬ x < nI 0 := fun p => by
      have a := Int32.lt_iff_toInt_lt.mp p
      have b := Int32.le_iff_toInt_le.mp q
      rw [nI_toInt (by omega)] at a
      rw [nI_toInt (by omega)] at b
      omega
    have h3 : ¬ x < nI s.2.2.length := fun p => by
      have a := Int32.lt_iff_toInt_lt.mp p
      have b := Int32.le_iff_toInt_le.mp q
      omega
    rw [if_neg h1, if_neg h3]
    refine Or.inr ⟨fun k hk => ?_, rfl⟩
    obtain ⟨rfl, hk, -⟩ := hk
    exact h3 ((nlt (by omega) (by omega)).mpr hk)
  · rw [if_neg (neg_n (by omega)), if_pos ((nlt (by omega) (by omega)).mpr hk), mlW_ok (by omega), Option.bind_some, (h5 k hk).1]
    cases e : s.2.2[k].1 with
    | false =>
      rw [bI_f, if_pos rfl]
      refine Or.inr ⟨fun j hj => ?_, rfl⟩
      obtain ⟨a, b, c⟩ := hj
      have := (neq (by omega) (by omega)).mp a
      subst this
      rw [e] at c
      cases c
    | true =>
      rw [bI_t, if_neg (by decide), Option.bind_some]
      exact Or.inl ⟨k, ⟨rfl, hk, e⟩, rfl⟩
theorem fnd_uniq {s : Sta} (hs : okS s) {x : Int32} {j k : Nat} (hj : fndP s x j) (hk : fndP s x k) : j = k := by
  obtain ⟨a, b, -⟩ := hj
  obtain ⟨c, d, -⟩ := hk
  have := hs.2.2.1
  rw [a] at c
  exact (neq (by omega) (by omega)).mp c
def hmv (s : Sta) (v : Nat) : Nat → Nat
  | 0 => 0
  | n + 1 => hmv s v n + one (match s.2.2[n]? with | some w => w.1 && w.2.1 == v | none => false)
theorem hmv_succ (s : Sta) (v n : Nat) : hmv s v (n + 1) = hmv s v n + one (match s.2.2[n]? with | some w => w.1 && w.2.1 == v | none => false) := rfl
theorem hmv_le (s : Sta) (v : Nat) : ∀ n, hmv s v n ≤ n := by
  intro n
  induction n with
  | zero => exact Nat.le_refl _
  | succ n ih =>
    rw [hmv_succ]
    have h1 : ∀ b : Bool, one b ≤ 1 := fun b => by cases b <;> decide
    have := h1 (match s.2.2[n]? with | some w => w.1 && w.2.1 == v | none => false)
    omega
theorem howMany_4 {M : Mem} {c : Nat} {s : Sta} (h : RC M c s) (hs : okS s) {v : Nat} (hv : v ≤ 2) : ∀ (n k : Nat), k ≤ s.2.2.length → s.2.2.length - k < n → f_X4_howMany_4 n c (nI v) (nI (hmv s v k)) (nI k) M = some (nI (hmv s v s.2.2.length), M) := by
  obtain ⟨-, -, h2, -, h5⟩ := h
  have h8 := hs.2.2.1
  intro n
  induction n with
  | zero => intro k _ h; omega
  | succ n ih =>
    intro k h3 h4
    rw [f_X4_howMany_4, h2]
    unfold f_X4_howMany_40
    by_cases hk : k < s.2.2.length
    · obtain ⟨a1, a2, -⟩ := h5 k hk
      have hw := (hs.2.2.2 s.2.2[k] (List.getElem_mem hk)).1
      have e := ih (k + 1) (by omega) (by omega)
      rw [hmv_succ, List.getElem?_eq_getElem hk] at e
      dsimp only at e
      rw [if_pos ((nlt (by omega) (by omega)).mpr hk), mlW_ok (by omega), Option.bind_some, a1, nI_add, nI_add, Option.bind_some, a2]
      cases e1 : s.2.2[k].1 with
      | false =>
        rw [e1] at e
        rw [bI_f, if_pos rfl]
        exact e
      | true =>
        rw [e1] at e
        rw [bI_t, if_neg (by decide)]
        simp (disch := omega) only [neq]
        by_cases q : s.2.2[k].2.1 = v
        · rw [if_pos q]
          rw [show (s.2.2[k].2.1 == v) = true by simpa using q] at e
          exact e
        · rw [if_neg q]
          rw [show (s.2.2[k].2.1 == v) = false by simpa using q] at e
          exact e
    · have : k = s.2.2.length := by omega
      subst this
      rw [if_neg (fun q => hk ((nlt (by omega) (by omega)).mp q))]
theorem howMany_ok {M : Mem} {c : Nat} {s : Sta} (h : RC M c s) (hs : okS s) {v : Nat} (hv : v ≤ 2) : f_X4_howMany c (nI v) M = some (nI (hmv s v s.2.2.length), M) :=
  howMany_4 h hs hv fuelN 0 (by omega) (by have := hs.2.2.1; unfold fuelN; omega)
def thr (s : Sta) : Nat := hmv s 0 s.2.2.length + hmv s 1 s.2.2.length + hmv s 2 s.2.2.length
theorem howManyThere_ok {M : Mem} {c : Nat} {s : Sta} (h : RC M c s) (hs : okS s) : f_X4_howManyThere c M = some (nI (thr s), M) := by
  unfold f_X4_howManyThere
  rw [howMany_ok h hs (show 0 ≤ 2 by omega), Option.bind_some, howMany_ok h hs (show 1 ≤ 2 by omega), Option.bind_some, howMany_ok h hs (show 2 ≤ 2 by omega), Option.bind_some, nI_add, nI_add]
  rfl
def opn (s : Sta) (k : Nat) : Bool := match s.2.2[k]? with | some w => w.1 && w.2.1 == 2 | none => false
theorem isOpen_ok {M : Mem} {c k : Nat} {s : Sta} (h : RC M c s) (hs : okS s) (hk : k < s.2.2.length) : f_X4_isOpen c (nI k) M = some (bI (opn s k), M) := by
  obtain ⟨-, -, h2, -, h5⟩ := h
  have h8 := hs.2.2.1
  obtain ⟨a1, a2, -⟩ := h5 k hk
  have hw := (hs.2.2.2 s.2.2[k] (List.getElem_mem hk)).1
  unfold f_X4_isOpen f_X4_isOpen_29 f_X4_isOpen_30 opn
  rw [List.getElem?_eq_getElem hk]
  dsimp only
  rw [mlW_ok (by omega), Option.bind_some, Option.bind_some, a1, a2, mrz_0, mrz_1]
  simp (disch := omega) only [neq]
  cases s.2.2[k].1 with
  | false => rw [bI_f, if_pos rfl]; rfl
  | true =>
    rw [bI_t, if_neg (by decide)]
    by_cases q : s.2.2[k].2.1 = 2
    · rw [if_pos q, show (s.2.2[k].2.1 == 2) = true by simpa using q]; rfl
    · rw [if_neg q, show (s.2.2[k].2.1 == 2) = false by simpa using q]; rfl
