/-! EVALUATION OF THE PROGRAMS: numbers are nI of natural numbers -/
theorem nlt {a b : Nat} (ha : a < 2147483648) (hb : b < 2147483648) : (nI a < nI b) ↔ a < b := nI_ltI ha hb
theorem neq {a b : Nat} (ha : a < 2147483648) (hb : b < 2147483648) : (nI a = nI b) ↔ a = b := nI_eq ha hb
theorem nsub {a b : Nat} (h : b ≤ a) : nI a - nI b = nI (a - b) := pk_sub h
theorem nmul (a b : Nat) : nI a * nI b = nI (a * b) := pk_mul a b
theorem ncl {n : Nat} (h : n < 2147483648) : (nI n).toNatClampNeg = n := nI_clamp h
theorem mrd_n {M : Mem} {c n i : Nat} (h : i < n) (hn : n < 2147483648) : mrd M c n (nI i) = some (M c i) := by
  unfold mrd
  have h1 : ¬ (nI i < 0 ∨ n ≤ (nI i).toNatClampNeg) := nI_in h hn
  rw [if_neg h1, ncl (by omega)]
theorem mst_n {M : Mem} {c n i : Nat} {v : Int32} (h : i < n) (hn : n < 2147483648) : mst M c n (nI i) v = some (mwr M c i v) := by
  unfold mst
  have h1 : ¬ (nI i < 0 ∨ n ≤ (nI i).toNatClampNeg) := nI_in h hn
  rw [if_neg h1, ncl (by omega)]
theorem mrs_n {f : Nat → Int32} {n i : Nat} (h : i < n) (hn : n < 2147483648) : mrs f n (nI i) = some (f i) := by
  unfold mrs
  have h1 : ¬ (nI i < 0 ∨ n ≤ (nI i).toNatClampNeg) := nI_in h hn
  rw [if_neg h1, ncl (by omega)]
theorem mpi_n (M : Mem) (c k : Nat) (v : Int32) : mpi M c k v = some (mwr M c k v) := rfl
theorem mcp_n {M : Mem} {a na b nb sp dp n : Nat} (h1 : sp + n ≤ na) (h2 : dp + n ≤ nb) (h3 : na < 2147483648) (h4 : nb < 2147483648) : mcp M a na b nb (nI sp) (nI dp) (nI n) = some (fun c => if c = b then va_cpy (M a) (M b) sp dp n else M c) := by
  unfold mcp
  rw [ncl (by omega), ncl (by omega), ncl (by omega), if_neg]
  rintro (h | h | h | h | h)
  · exact nI_pos (by omega) h
  · exact nI_pos (by omega) h
  · exact nI_pos (by omega) h
  · omega
  · omega
theorem mwr_at (M : Mem) (c k : Nat) (v : Int32) : mwr M c k v c k = v := by rw [mwr_eq]; exact pk_us
theorem mwr_off {M : Mem} {c a : Nat} (k : Nat) (v : Int32) (i : Nat) (h : a ≠ c) : mwr M c k v a i = M a i := by rw [mwr_ne M k v h]
theorem mwr_in {M : Mem} {c k : Nat} (v : Int32) {i : Nat} (h : i ≠ k) : mwr M c k v c i = M c i := by rw [mwr_eq]; exact pk_un h
def bI (b : Bool) : Int32 := nI (if b = true then 1 else 0)
theorem bI_t : bI true = nI 1 := rfl
theorem bI_f : bI false = nI 0 := rfl
theorem bI_0 (a : Bool) : (bI a = nI 0) ↔ a = false := by cases a <;> decide
theorem nc_n {q : Nat} (h : q < 65536) : nc (nI q) = nI q := by
  have h1 := (pk_charN h).1
  unfold nc vp_nar
  rw [h1]
theorem nI_toBV (n : Nat) : (nI n).toBitVec = BitVec.ofNat 32 n := rfl
theorem nI_or (a b : Nat) : nI a ||| nI b = nI (a ||| b) := by
  apply Int32.toBitVec_inj.mp
  rw [Int32.toBitVec_or, nI_toBV, nI_toBV, nI_toBV]
  apply BitVec.eq_of_toNat_eq
  simp [Nat.or_mod_two_pow]
theorem nI_and (a b : Nat) : nI a &&& nI b = nI (a &&& b) := by
  apply Int32.toBitVec_inj.mp
  rw [Int32.toBitVec_and, nI_toBV, nI_toBV, nI_toBV]
  apply BitVec.eq_of_toNat_eq
  simp [Nat.and_mod_two_pow]
/-- a comparison's answer, as a difference of two small numbers -/
theorem pos_sub {c d : Nat} (hc : c < 1073741824) (hd : d < 1073741824) : (nI 0 < nI c - nI d) ↔ d < c := by
  rw [Int32.lt_iff_toInt_lt, pk_sub_toInt hc hd, nI_toInt (by omega)]
  omega
theorem neg_n {n : Nat} (h : n < 2147483648) : ¬ nI n < nI 0 := nI_pos h
/-! THE CLASS's TABLE OF FORMS: node 16 + i is the i-th tree of tb -/
abbrev nkid (t : T) : Nat := (kids t).length
theorem take_split {α : Type} (l : List α) (J : Nat) (h : J < l.length) : l = l.take J ++ l[J] :: l.drop (J + 1) := by
  rw [← List.drop_eq_getElem_cons h, List.take_append_drop]
def dn (tb : List T) (id : Nat) : T := if id < 16 then lf id else tb.getD (id - 16) (lf 0)
def stof (tb : List T) (i : Nat) : Nat := ((tb.take i).map nkid).sum
def okT (tb : List T) : Prop := tb.Nodup ∧ ∀ t ∈ tb, AR t = true ∧ 16 ≤ kind t
theorem dn_lf {tb : List T} {id : Nat} (h : id < 16) : dn tb id = lf id := if_pos h
theorem dn_nd {tb : List T} {i : Nat} (h : i < tb.length) : dn tb (16 + i) = tb[i] := by
  unfold dn
  rw [if_neg (by omega), show 16 + i - 16 = i by omega, List.getD_eq_getElem?_getD, List.getElem?_eq_getElem h]
  rfl
theorem dn_mem {tb : List T} {id : Nat} (h1 : 16 ≤ id) (h2 : id < 16 + tb.length) : dn tb id ∈ tb := by
  have : id = 16 + (id - 16) := by omega
  rw [this, dn_nd (by omega)]
  exact List.getElem_mem _
theorem dn_AR {tb : List T} (h : okT tb) {id : Nat} (hid : id < 16 + tb.length) : AR (dn tb id) = true := by
  by_cases h1 : id < 16
  · rw [dn_lf h1]; exact AR_lf h1
  · exact (h.2 _ (dn_mem (by omega) hid)).1
theorem dn_kind {tb : List T} (h : okT tb) {id : Nat} (hid : id < 16 + tb.length) : (id < 16 → kind (dn tb id) = id) ∧ (16 ≤ id → 16 ≤ kind (dn tb id)) := by
  refine ⟨fun h1 => by rw [dn_lf h1]; rfl, fun h1 => (h.2 _ (dn_mem h1 hid)).2⟩
theorem dn_inj {tb : List T} (h : okT tb) {a b : Nat} (ha : a < 16 + tb.length) (hb : b < 16 + tb.length) (e : dn tb a = dn tb b) : a = b := by
  have ka := dn_kind h ha
  have kb := dn_kind h hb
  by_cases h1 : a < 16
  · by_cases h2 : b < 16
    · have e1 := ka.1 h1
      have e2 := kb.1 h2
      rw [e] at e1
      omega
    · have e1 := ka.1 h1
      have e2 := kb.2 (by omega)
      rw [e] at e1
      omega
  · by_cases h2 : b < 16
    · have e1 := ka.2 (by omega)
      have e2 := kb.1 h2
      rw [e] at e1
      omega
    · have ea : a = 16 + (a - 16) := by omega
      have eb : b = 16 + (b - 16) := by omega
      rw [ea, eb, dn_nd (by omega), dn_nd (by omega)] at e
      have := (List.getElem_inj h.1).mp e
      omega
theorem dn_snoc {tb : List T} {t : T} {id : Nat} (h : id < 16 + tb.length) : dn (tb ++ [t]) id = dn tb id := by
  by_cases h1 : id < 16
  · rw [dn_lf h1, dn_lf h1]
  · have e : id = 16 + (id - 16) := by omega
    rw [e, dn_nd (tb := tb ++ [t]) (by rw [List.length_append]; omega), dn_nd (tb := tb) (by omega), List.getElem_append_left]
theorem dn_last {tb : List T} {t : T} : dn (tb ++ [t]) (16 + tb.length) = t := by
  rw [dn_nd (by simp)]
  simp
theorem dn_app {tb tc : List T} {id : Nat} (h : id < 16 + tb.length) : dn (tb ++ tc) id = dn tb id := by
  by_cases h1 : id < 16
  · rw [dn_lf h1, dn_lf h1]
  · have e : id = 16 + (id - 16) := by omega
    rw [e, dn_nd (tb := tb ++ tc) (by rw [List.length_append]; omega), dn_nd (tb := tb) (by omega), List.getElem_append_left]
theorem stof_app {tb tc : List T} {i : Nat} (h : i ≤ tb.length) : stof (tb ++ tc) i = stof tb i := by
  unfold stof
  rw [List.take_append_of_le_length h]
theorem stof_succ {tb : List T} {i : Nat} (h : i < tb.length) : stof tb (i + 1) = stof tb i + nkid tb[i] := by
  unfold stof
  rw [List.take_succ_eq_append_getElem h, List.map_append, List.sum_append]
  simp only [List.map_cons, List.map_nil, List.sum_cons, List.sum_nil, Nat.add_zero]
theorem stof_mono {tb : List T} {i j : Nat} (h : i ≤ j) : stof tb i ≤ stof tb j := by
  unfold stof
  have : tb.take i = (tb.take j).take i := by rw [List.take_take, Nat.min_eq_left h]
  rw [this]
  generalize tb.take j = l
  rw [List.map_take]
  generalize l.map nkid = l
  conv => rhs; rw [← List.take_append_drop i l]
  rw [List.sum_append]
  omega
/-- where a node's chain goes on: the greatest node below n at the place p (0: none) -/
def prv (M : Mem) : Nat → Nat → Nat
  | 0, _ => 0
  | n + 1, p => if 16 ≤ n ∧ M 12 n = nI p then n else prv M n p
/-- the place of a node, by its kind and its forms -/
def hsh (h : Int32) (l : List Int32) : Int32 := l.foldl (fun h v => h * nI 31 + v) h
def plc (h : Int32) : Int32 := (h ^^^ mushr h (nI 9)) &&& nI 511
def kidsAt (M : Mem) (s n : Nat) : List Int32 := (List.range n).map fun j => M 9 (s + j)
def attr (M : Mem) (id : Nat) (t : T) : Prop := M 2 id = nI (kind t) ∧ M 4 id = nI (nkid t) ∧ M 5 id = nI (size t) ∧ M 6 id = nI (sgn t) ∧ M 7 id = bI (tae t) ∧ M 8 id = nI (fl t)
def FT (M : Mem) (tb : List T) : Prop :=
  okT tb ∧ tb.length ≤ 2032 ∧ stof tb tb.length ≤ 8192 ∧ M 1 11 = nI (16 + tb.length) ∧ M 1 12 = nI (stof tb tb.length) ∧
  (∀ id, id < 16 + tb.length → attr M id (dn tb id)) ∧
  (∀ i, i < tb.length → M 3 (16 + i) = nI (stof tb i)) ∧
  (∀ i (h : i < tb.length) j (hj : j < nkid tb[i]), ∃ id, id < 16 + i ∧ M 9 (stof tb i + j) = nI id ∧ dn tb id = (kids tb[i])[j]) ∧
  (∀ i (h : i < tb.length), M 12 (16 + i) = plc (hsh (nI (kind tb[i])) (kidsAt M (stof tb i) (nkid tb[i]))) ∧ ∃ p, p < 512 ∧ M 12 (16 + i) = nI p ∧ M 11 (16 + i) = nI (prv M (16 + i) p)) ∧
  ∀ p, p < 512 → M 10 p = nI (prv M (16 + tb.length) p)
/-- the table stands in the cells 1 to 12 -/
theorem prv_congr {M M' : Mem} : ∀ (n p : Nat), (∀ id, id < n → M' 12 id = M 12 id) → prv M' n p = prv M n p
  | 0, _, _ => rfl
  | n + 1, p, h => by
    unfold prv
    rw [h n (by omega), prv_congr n p (fun id hid => h id (by omega))]
theorem FT.congr {M M' : Mem} {tb : List T} (h : FT M tb) (hc : ∀ c, 1 ≤ c → c ≤ 12 → M' c = M c) : FT M' tb := by
  obtain ⟨h1, h2, h3, h4, h5, h6, h7, h8, h9, h10⟩ := h
  have e9 : ∀ s n, kidsAt M' s n = kidsAt M s n := fun s n => by unfold kidsAt; rw [hc 9 (by omega) (by omega)]
  have e12 : ∀ n p, prv M' n p = prv M n p := fun n p => prv_congr n p (fun id _ => by rw [hc 12 (by omega) (by omega)])
  refine ⟨h1, h2, h3, by rw [hc 1 (by omega) (by omega)]; exact h4, by rw [hc 1 (by omega) (by omega)]; exact h5, fun id hid => ?_, fun i hi => by rw [hc 3 (by omega) (by omega)]; exact h7 i hi, fun i hi j hj => by rw [hc 9 (by omega) (by omega)]; exact h8 i hi j hj, fun i hi => ?_, fun p hp => by rw [hc 10 (by omega) (by omega), e12]; exact h10 p hp⟩
  · unfold attr
    rw [hc 2 (by omega) (by omega), hc 4 (by omega) (by omega), hc 5 (by omega) (by omega), hc 6 (by omega) (by omega), hc 7 (by omega) (by omega), hc 8 (by omega) (by omega)]
    exact h6 id hid
  · obtain ⟨a, p, hp, b, c⟩ := h9 i hi
    rw [hc 12 (by omega) (by omega), hc 11 (by omega) (by omega), e9]
    exact ⟨a, p, hp, b, by rw [e12]; exact c⟩
/-- the forms of a node, by their numbers -/
theorem FT_kids {M : Mem} {tb : List T} (h : FT M tb) {id : Nat} (h1 : 16 ≤ id) (h2 : id < 16 + tb.length) : ∃ (s : Nat) (ki : Nat → Nat), M 3 id = nI s ∧ s + nkid (dn tb id) ≤ stof tb tb.length ∧ ∀ j (hj : j < nkid (dn tb id)), ki j < id ∧ M 9 (s + j) = nI (ki j) ∧ dn tb (ki j) = (kids (dn tb id))[j] := by
  obtain ⟨i, rfl⟩ : ∃ i, id = 16 + i := ⟨id - 16, by omega⟩
  have hi : i < tb.length := by omega
  have k := h.2.2.2.2.2.2.2.1 i hi
  rw [dn_nd hi]
  have hch : ∀ j, ∃ id, ∀ (hj : j < nkid tb[i]), id < 16 + i ∧ M 9 (stof tb i + j) = nI id ∧ dn tb id = (kids tb[i])[j] := fun j => by
    by_cases hj : j < nkid tb[i]
    · obtain ⟨id, q⟩ := k j hj
      exact ⟨id, fun _ => q⟩
    · exact ⟨0, fun h => absurd h hj⟩
  refine ⟨stof tb i, fun j => Classical.choose (hch j), h.2.2.2.2.2.2.1 i hi, ?_, fun j hj => Classical.choose_spec (hch j) hj⟩
  have := stof_succ hi
  have := stof_mono (tb := tb) (i := i + 1) (j := tb.length) (by omega)
  omega
theorem kid_ok {M : Mem} {tb : List T} (h : FT M tb) {id j : Nat} (h1 : 16 ≤ id) (h2 : id < 16 + tb.length) (hj : j < nkid (dn tb id)) : ∃ k, k < id ∧ f_X1_kid (nI id) (nI j) M = some (nI k, M) ∧ dn tb k = (kids (dn tb id))[j] := by
  obtain ⟨s, ki, a, b, c⟩ := FT_kids h h1 h2
  obtain ⟨d, e, f⟩ := c j hj
  have hl := h.2.1
  have hk := h.2.2.1
  refine ⟨ki j, d, ?_, f⟩
  have at4 := (h.2.2.2.2.2.1 id h2).2.1
  unfold f_X1_kid
  rw [if_neg (neg_n (show j < 2147483648 by omega)), mrd_n (by omega) (by omega), Option.bind_some, at4, if_pos ((nlt (show j < 2147483648 by omega) (show nkid (dn tb id) < 2147483648 by omega)).mpr hj), mrd_n (by omega) (by omega), Option.bind_some, a, nI_add, mrd_n (by omega) (by omega), Option.bind_some, e]
  rfl
