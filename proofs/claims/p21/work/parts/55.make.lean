/-! Forms: isMadeOf, describe, make, release -/
theorem sgn_nd {k : Nat} {ts : List T} (h : 16 ≤ k) : sgn (nd k ts) = (ts.map sgn).foldl (· ||| ·) 0 := by
  unfold sgn
  rw [tfold_nd, if_neg (by omega), if_neg (by omega)]
theorem tae_nd (k : Nat) (ts : List T) : tae (nd k ts) = if k < 16 then (k == 1 || k == 3 || Nat.ble 10 k) else if k = 17 ∨ k = 19 then true else if k = 20 then (ts.map tae).all id else if k = 21 then (ts.map tae).any id else false := by
  unfold tae
  rw [tfold_nd]
theorem fl_nd (k : Nat) (ts : List T) : fl (nd k ts) = if k < 10 then lfc k else if k < 16 then 45 else if k = 16 then 88 else if k = 17 then 78 else 40 := rfl
/-- the trees of a row of numbers -/
def RW (M : Mem) (tb : List T) (a f : Nat) (ts : List T) (r : Nat → Nat) : Prop := ∀ j (hj : j < ts.length), r j < 16 + tb.length ∧ M a (f + j) = nI (r j) ∧ dn tb (r j) = ts[j]
theorem take_sum {ts : List T} (g : T → Nat) {i : Nat} (h : i < ts.length) : ((ts.take (i + 1)).map g).sum = ((ts.take i).map g).sum + g ts[i] := by
  rw [List.take_succ_eq_append_getElem h, List.map_append, List.sum_append]
  simp only [List.map_cons, List.map_nil, List.sum_cons, List.sum_nil, Nat.add_zero]
theorem take_or {ts : List T} (g : T → Nat) {i : Nat} (h : i < ts.length) : ((ts.take (i + 1)).map g).foldl (· ||| ·) 0 = ((ts.take i).map g).foldl (· ||| ·) 0 ||| g ts[i] := by
  rw [List.take_succ_eq_append_getElem h, List.map_append, List.foldl_append]
  rfl
theorem take_all {ts : List T} (g : T → Bool) {i : Nat} (h : i < ts.length) : ((ts.take (i + 1)).map g).all id = (((ts.take i).map g).all id && g ts[i]) := by
  rw [List.take_succ_eq_append_getElem h, List.map_append, List.all_append]
  simp
theorem take_any {ts : List T} (g : T → Bool) {i : Nat} (h : i < ts.length) : ((ts.take (i + 1)).map g).any id = (((ts.take i).map g).any id || g ts[i]) := by
  rw [List.take_succ_eq_append_getElem h, List.map_append, List.any_append]
  simp
theorem made_26 {M : Mem} {id s n a f k3 : Nat} {ki r : Nat → Nat} (hid : id < 2048) (h3 : M 3 id = nI s) (hs : s + n ≤ 8192) (ha : f + n ≤ rlen a) (hra : rlen a < 2147483648) (hk : ∀ j, j < n → M 9 (s + j) = nI (ki j) ∧ ki j < 2048) (hr : ∀ j, j < n → M a (f + j) = nI (r j) ∧ r j < 2048) :
    ∀ (m i : Nat), n < m + i → i ≤ n → (∀ j, j < i → ki j = r j) → ∃ b, f_X1_isMadeOf_26 m (nI id) a (nI f) (nI n) (nI i) M = some (bI b, M) ∧ (b = true ↔ ∀ j, j < n → ki j = r j) := by
  intro m
  induction m with
  | zero => intro i h1 h2; omega
  | succ m ih =>
    intro i h1 h2 hi
    rw [f_X1_isMadeOf_26]
    by_cases hin : i < n
    · obtain ⟨e1, l1⟩ := hk i hin
      obtain ⟨e2, l2⟩ := hr i hin
      simp (disch := omega) only [nlt, hin, if_true, mrd_n, Option.bind_some, h3, nI_add, e1, e2, neq]
      by_cases he : ki i = r i
      · rw [if_pos he]
        exact ih (i + 1) (by omega) (by omega) (fun j hj => by
          by_cases hji : j = i
          · rw [hji]; exact he
          · exact hi j (by omega))
      · rw [if_neg he]
        exact ⟨false, rfl, by simp; exact ⟨i, hin, he⟩⟩
    · simp (disch := omega) only [nlt, hin, if_false]
      exact ⟨true, rfl, by simp; intro j hj; exact hi j (by omega)⟩
theorem isMadeOf_ok {M : Mem} {tb : List T} (h : FT M tb) {id a f k : Nat} {ts : List T} {r : Nat → Nat} (h1 : 16 ≤ id) (h2 : id < 16 + tb.length) (hk : k < 32) (hrl : f + ts.length ≤ rlen a) (hra : rlen a < 2147483648) (hrw : RW M tb a f ts r) : ∃ b : Bool, f_X1_isMadeOf (nI id) (nI k) a (nI f) (nI ts.length) M = some (bI b, M) ∧ (b = true ↔ kind (dn tb id) = k ∧ kids (dn tb id) = ts) := by
  have hl := h.2.1
  have hst := h.2.2.1
  have aa := h.2.2.2.2.2.1 id h2
  obtain ⟨s, ki, k1, k2, k3⟩ := FT_kids h h1 h2
  have hA := AR_le (dn_AR h.1 h2)
  unfold f_X1_isMadeOf f_X1_isMadeOf_21
  simp (disch := omega) only [mrd_n, Option.bind_some, aa.1, neq]
  by_cases hkk : kind (dn tb id) = k
  · simp (disch := omega) only [hkk, if_true, mrd_n, Option.bind_some, aa.2.1, neq, true_and]
    by_cases hn : nkid (dn tb id) = ts.length
    · rw [if_pos hn]
      obtain ⟨b, hb1, hb2⟩ := made_26 (M := M) (id := id) (s := s) (n := ts.length) (a := a) (f := f) (k3 := 0) (ki := ki) (r := r) (by omega) k1 (by omega) hrl hra (fun j hj => ⟨(k3 j (by omega)).2.1, by have := (k3 j (by omega)).1; omega⟩) (fun j hj => ⟨(hrw j hj).2.1, by have := (hrw j hj).1; omega⟩) fuelN 0 (by unfold fuelN; omega) (by omega) (fun j hj => by omega)
      refine ⟨b, hb1, hb2.trans ?_⟩
      constructor
      · intro q
        refine List.ext_getElem hn (fun j g1 g2 => ?_)
        have a1 := (k3 j g1).2.2
        have a2 := (hrw j g2).2.2
        rw [← a1, ← a2, q j g2]
      · intro q j hj
        have hj' : j < nkid (dn tb id) := by omega
        have a1 := (k3 j hj').2.2
        have a2 := (hrw j hj).2.2
        refine dn_inj h.1 (by have := (k3 j hj').1; omega) (hrw j hj).1 ?_
        rw [a1, a2]
        simp [q]
    · rw [if_neg hn]
      exact ⟨false, rfl, by simp; intro e; exact hn (by rw [← e])⟩
  · simp only [hkk, if_false]
    exact ⟨false, rfl, by simp⟩
/-- what describe leaves -/
def dsc (M : Mem) (q0 : Nat) (t : T) : Mem := mwr (mwr (mwr (mwr M 5 q0 (nI (size t))) 6 q0 (nI (sgn t))) 8 q0 (nI (fl t))) 7 q0 (bI (tae t))
theorem dsc_86 {k26 : Int32 → Int32 → Int32 → Int32 → Int32 → Int32 → Int32 → Mem → Option Rv} {M : Mem} {q : Nat} {B v : Bool} {x1 x2 x3 x4 x7 s0 : Int32} (hq : q < 2048) (h7 : M 7 q = bI v) : f_X1_describe_86 k26 x1 x2 x3 x4 (bI B) x7 (nI q) s0 M = k26 x1 x2 x3 x4 s0 (bI (B || v)) (x7 + nI 1) M := by
  unfold f_X1_describe_86 f_X1_describe_103 f_X1_describe_108
  rw [mrd_n hq (by omega), Option.bind_some, h7]
  cases B <;> cases v <;> simp [bI_0] <;> rfl
theorem dsc_and {k26 : Int32 → Int32 → Int32 → Int32 → Int32 → Int32 → Int32 → Mem → Option Rv} {M : Mem} {q : Nat} {A v : Bool} {x1 x2 x3 x4 x6 x7 : Int32} (h7 : M 7 q = bI v) : (if bI A = nI 0 then (f_X1_describe_85 k26 x1 x2 x3 x4 x6 x7 (nI q) M) else if M 7 q = nI 0 then (f_X1_describe_85 k26 x1 x2 x3 x4 x6 x7 (nI q) M) else f_X1_describe_86 k26 x1 x2 x3 x4 x6 x7 (nI q) (nI 1) M) = f_X1_describe_86 k26 x1 x2 x3 x4 x6 x7 (nI q) (bI (A && v)) M := by
  rw [h7]
  unfold f_X1_describe_85
  cases A <;> cases v <;> simp [bI_0] <;> rfl
theorem dsc_26 {M : Mem} {tb : List T} {q0 k s : Nat} {ts : List T} {r : Nat → Nat} (hid : q0 < 2048) (hk1 : 16 ≤ k) (hk2 : k ≤ 21) (hlen : tb.length ≤ 2032) (hs : s + ts.length ≤ 8192) (h12 : M 1 12 = nI (s + ts.length)) (hrw : RW M tb 9 s ts r) (hat : ∀ j, j < 16 + tb.length → attr M j (dn tb j)) :
    ∀ (m i : Nat), ts.length < m + i → i ≤ ts.length → f_X1_describe_26 m (nI q0) (nI k) (nI (1 + ((ts.take i).map size).sum)) (nI (((ts.take i).map sgn).foldl (· ||| ·) 0)) (bI (((ts.take i).map tae).all id)) (bI (((ts.take i).map tae).any id)) (nI (s + i)) M = some (nI 0, dsc M q0 (nd k ts)) := by
  intro m
  induction m with
  | zero => intro i h1 h2; omega
  | succ m ih =>
    intro i h1 h2
    rw [f_X1_describe_26, h12]
    by_cases hi : i < ts.length
    · obtain ⟨r1, r2, r3⟩ := hrw i hi
      have at1 := hat (r i) r1
      rw [r3] at at1
      simp (disch := omega) only [nlt, show s + i < s + ts.length by omega, if_true, mrd_n, Option.bind_some, r2, at1.2.2.1, at1.2.2.2.1, nI_or]
      rw [dsc_and at1.2.2.2.2.1, dsc_86 (show r i < 2048 by omega) at1.2.2.2.2.1]
      simp only [nI_add]
      have := ih (i + 1) (by omega) (by omega)
      rw [take_sum size hi, take_or sgn hi, take_all tae hi, take_any tae hi] at this
      rw [show 1 + ((ts.take i).map size).sum + size ts[i] = 1 + (((ts.take i).map size).sum + size ts[i]) by omega, show s + i + 1 = s + (i + 1) by omega]
      exact this
    · have hie : i = ts.length := by omega
      subst hie
      simp (disch := omega) only [nlt, Nat.lt_irrefl, if_false, mst_n, Option.bind_some, neq, List.take_length]
      have e1 : (nI (1 + (ts.map size).sum)) = nI (size (nd k ts)) := by rw [size_nd]
      have e2 : nI ((ts.map sgn).foldl (· ||| ·) 0) = nI (sgn (nd k ts)) := by rw [sgn_nd hk1]
      rw [e1, e2]
      unfold f_X1_describe_160 f_X1_describe_189 f_X1_describe_200 f_X1_describe_204 f_X1_describe_205 dsc
      rw [fl_nd, tae_nd]
      rw [if_neg (show ¬ k < 10 by omega), if_neg (show ¬ k < 16 by omega), if_neg (show ¬ k < 16 by omega)]
      rcases (show k = 16 ∨ k = 17 ∨ k = 18 ∨ k = 19 ∨ k = 20 ∨ k = 21 by omega) with rfl | rfl | rfl | rfl | rfl | rfl
      · simp +decide (disch := omega) only [if_true, if_false, mst_n, Option.bind_some, neq, nc_n]
        rfl
      · simp +decide (disch := omega) only [if_true, if_false, mst_n, Option.bind_some, neq, nc_n]
        rfl
      · simp +decide (disch := omega) only [if_true, if_false, mst_n, Option.bind_some, neq, nc_n]
        rfl
      · simp +decide (disch := omega) only [if_true, if_false, mst_n, Option.bind_some, neq, nc_n]
        rfl
      · cases hq : (ts.map tae).all id with
        | true =>
          simp +decide (disch := omega) only [if_true, if_false, mst_n, Option.bind_some, neq, nc_n, bI_0]
          rfl
        | false =>
          simp +decide (disch := omega) only [if_true, if_false, mst_n, Option.bind_some, neq, nc_n, bI_0]
          rfl
      · cases hq : (ts.map tae).any id with
        | true =>
          simp +decide (disch := omega) only [if_true, if_false, mst_n, Option.bind_some, neq, nc_n, bI_0]
          rfl
        | false =>
          simp +decide (disch := omega) only [if_true, if_false, mst_n, Option.bind_some, neq, nc_n, bI_0]
          rfl
theorem describe_ok {M : Mem} {tb : List T} {q0 k s : Nat} {ts : List T} {r : Nat → Nat} (hid : q0 < 2048) (hk1 : 16 ≤ k) (hk2 : k ≤ 21) (hlen : tb.length ≤ 2032) (hs : s + ts.length ≤ 8192) (h2 : M 2 q0 = nI k) (h3 : M 3 q0 = nI s) (h12 : M 1 12 = nI (s + ts.length)) (hrw : RW M tb 9 s ts r) (hat : ∀ j, j < 16 + tb.length → attr M j (dn tb j)) : f_X1_describe (nI q0) M = some (nI 0, dsc M q0 (nd k ts)) := by
  unfold f_X1_describe
  simp (disch := omega) only [mrd_n, Option.bind_some, h2, h3]
  have := dsc_26 hid hk1 hk2 hlen hs h12 hrw hat fuelN 0 (by unfold fuelN; omega) (by omega)
  exact this
