theorem nkid_nd (k : Nat) (ts : List T) : nkid (nd k ts) = ts.length := by
  show (kids (nd k ts)).length = _
  rw [kids_nd]
theorem prv_spec (M : Mem) : ∀ (n p : Nat), (prv M n p = 0 ∧ ∀ id, 16 ≤ id → id < n → M 12 id ≠ nI p) ∨ (16 ≤ prv M n p ∧ prv M n p < n ∧ M 12 (prv M n p) = nI p ∧ ∀ id, prv M n p < id → id < n → M 12 id ≠ nI p)
  | 0, p => Or.inl ⟨rfl, fun id _ h => by omega⟩
  | n + 1, p => by
    unfold prv
    by_cases h : 16 ≤ n ∧ M 12 n = nI p
    · rw [if_pos h]
      exact Or.inr ⟨h.1, by omega, h.2, fun id h1 h2 => by omega⟩
    · rw [if_neg h]
      rcases prv_spec M n p with ⟨a, b⟩ | ⟨a, b, c, d⟩
      · refine Or.inl ⟨a, fun id h1 h2 e => ?_⟩
        by_cases hi : id = n
        · subst hi
          exact h ⟨h1, e⟩
        · exact b id h1 (by omega) e
      · refine Or.inr ⟨a, by omega, c, fun id h1 h2 e => ?_⟩
        by_cases hi : id = n
        · subst hi
          exact h ⟨by omega, e⟩
        · exact d id h1 (by omega) e
theorem plc_n (v : Int32) : ∃ p, p < 512 ∧ plc v = nI p := by
  obtain ⟨j, h1, h2⟩ := pk_andE (v ^^^ mushr v (nI 9)) (m := nI 511) 9 (by decide)
  exact ⟨j, h1, h2⟩
def rowI (r : Nat → Nat) (n : Nat) : List Int32 := (List.range n).map fun j => nI (r j)
theorem rowI_succ (r : Nat → Nat) (i : Nat) : rowI r (i + 1) = rowI r i ++ [nI (r i)] := by
  unfold rowI
  rw [List.range_succ, List.map_append]
  rfl
theorem hsh_succ (h : Int32) (r : Nat → Nat) (i : Nat) : hsh h (rowI r (i + 1)) = hsh h (rowI r i) * nI 31 + nI (r i) := by
  rw [rowI_succ]
  unfold hsh
  rw [List.foldl_append]
  rfl
theorem make_21 {M : Mem} {a f n : Nat} {r : Nat → Nat} {x1 : Int32} (ha : f + n ≤ rlen a) (hra : rlen a < 2147483648) (hr : ∀ j, j < n → M a (f + j) = nI (r j)) :
    ∀ (m i : Nat), n < m + i → i ≤ n → f_X1_make_21 m x1 a (nI f) (nI n) (hsh x1 (rowI r i)) (nI i) M = (mrd M 10 512 (plc (hsh x1 (rowI r n)))).bind fun v2 => f_X1_make_74 fuelN x1 a (nI f) (nI n) (plc (hsh x1 (rowI r n))) v2 (nI 0) M := by
  intro m
  induction m with
  | zero => intro i h1 h2; omega
  | succ m ih =>
    intro i h1 h2
    rw [f_X1_make_21]
    by_cases hi : i < n
    · simp (disch := omega) only [nlt, hi, if_true, nI_add, mrd_n, Option.bind_some, hr i hi]
      rw [← hsh_succ]
      exact ih (i + 1) (by omega) (by omega)
    · have : i = n := by omega
      subst this
      simp (disch := omega) only [nlt, hi, if_false]
      rfl
theorem kidsAt_row {M : Mem} {tb : List T} (h : FT M tb) {i : Nat} (hi : i < tb.length) {a f : Nat} {r : Nat → Nat} (hrw : RW M tb a f (kids tb[i]) r) : kidsAt M (stof tb i) (nkid tb[i]) = rowI r (nkid tb[i]) := by
  unfold kidsAt rowI
  apply List.map_congr_left
  intro j hj
  rw [List.mem_range] at hj
  obtain ⟨id, h1, h2, h3⟩ := h.2.2.2.2.2.2.2.1 i hi j hj
  obtain ⟨g1, g2, g3⟩ := hrw j hj
  rw [h2]
  congr 1
  exact dn_inj h.1 (by omega) g1 (by rw [h3, g3])
theorem make_74 {M : Mem} {tb : List T} (h : FT M tb) {k a f p : Nat} {ts : List T} {r : Nat → Nat} (hk1 : 16 ≤ k) (hk2 : k < 32) (hrl : f + ts.length ≤ rlen a) (hra : rlen a < 2147483648) (hrw : RW M tb a f ts r) (hp : p < 512) (hpl : plc (hsh (nI k) (rowI r ts.length)) = nI p) :
    ∀ (m lim x8 : Nat), prv M lim p < m → x8 + prv M lim p < 2048 → lim ≤ 16 + tb.length → (∀ i, i < tb.length → lim ≤ 16 + i → M 12 (16 + i) = nI p → dn tb (16 + i) ≠ nd k ts) →
      (∃ id, id < 16 + tb.length ∧ dn tb id = nd k ts ∧ f_X1_make_74 m (nI k) a (nI f) (nI ts.length) (nI p) (nI (prv M lim p)) (nI x8) M = some (nI id, M)) ∨ (nd k ts ∉ tb ∧ f_X1_make_74 m (nI k) a (nI f) (nI ts.length) (nI p) (nI (prv M lim p)) (nI x8) M = f_X1_make_119 (nI k) a (nI f) (nI ts.length) (nI p) M) := by
  have hl := h.2.1
  intro m
  induction m with
  | zero => intro lim x8 h1; omega
  | succ m ih =>
    intro lim x8 h1 h2 h3 h4
    rw [f_X1_make_74]
    rcases prv_spec M lim p with ⟨e0, hno⟩ | ⟨c1, c2, c3, c4⟩
    · rw [e0]
      simp (disch := omega) only [nlt, show x8 < 2048 by omega, if_true]
      refine Or.inr ⟨fun hmem => ?_, trivial⟩
      obtain ⟨i, hi, he⟩ := List.getElem_of_mem hmem
      have q := (h.2.2.2.2.2.2.2.2.1 i hi).1
      have hkr : RW M tb a f (kids tb[i]) r := by rw [he, kids_nd]; exact hrw
      rw [kidsAt_row h hi hkr, he, kind_nd] at q
      have e1 : nkid (nd k ts) = ts.length := by show (kids (nd k ts)).length = _; rw [kids_nd]
      rw [e1, hpl] at q
      by_cases hlim : lim ≤ 16 + i
      · exact h4 i hi hlim q (by rw [dn_nd hi, he])
      · exact hno (16 + i) (by omega) (by omega) q
    · generalize hcur : prv M lim p = cur at *
      obtain ⟨b, hb1, hb2⟩ := isMadeOf_ok h (id := cur) c1 (by omega) (k := k) hk2 hrl hra hrw
      simp (disch := omega) only [nlt, neq, show x8 < 2048 by omega, show ¬ cur = 0 by omega, if_true, if_false, hb1, Option.bind_some, bI_0]
      obtain ⟨i, rfl⟩ : ∃ i, cur = 16 + i := ⟨cur - 16, by omega⟩
      obtain ⟨-, p', hp', hp1, hp2⟩ := h.2.2.2.2.2.2.2.2.1 i (by omega)
      have hpp : p' = p := by
        rw [hp1] at c3
        exact (nI_eq (by omega) (by omega)).mp c3
      subst hpp
      cases b with
      | false =>
        simp (disch := omega) only [if_true, mrd_n, Option.bind_some, hp2, nI_add]
        have hpr : prv M (16 + i) p' < 16 + i := by
          rcases prv_spec M (16 + i) p' with ⟨z, -⟩ | ⟨-, z, -⟩ <;> omega
        refine ih (16 + i) (x8 + 1) (by omega) (by omega) (by omega) (fun j hj hlim hjp he => ?_)
        by_cases hji : j = i
        · subst hji
          have : (false = true) := hb2.mpr ⟨by rw [he]; rfl, by rw [he, kids_nd]⟩
          cases this
        · by_cases hlt : 16 + j < lim
          · exact c4 (16 + j) (by omega) hlt hjp
          · exact h4 j hj (by omega) hjp he
      | true =>
        simp only [Bool.true_eq_false, if_false]
        have := hb2.mp rfl
        exact Or.inl ⟨16 + i, by omega, T_ext this.1 (by rw [this.2, kids_nd]), rfl⟩
/-- the memory with one more node -/
def mkM (M : Mem) (top k st n a f p : Nat) (t : T) : Mem :=
  let M10 := mwr (mwr (mwr (mwr (mwr (mwr (mwr M 1 11 (nI (top + 1))) 12 top (nI p)) 11 top (M 10 p)) 10 p (nI top)) 2 top (nI k)) 3 top (nI st)) 4 top (nI n)
  dsc (mwr (fun c => if c = 9 then va_cpy (M10 a) (M10 9) f st n else M10 c) 1 12 (nI (st + n))) top t
theorem mkM_far {M : Mem} {top k st n a f p : Nat} {t : T} {c : Nat} (h : c = 0 ∨ 13 ≤ c) : mkM M top k st n a f p t c = M c := by
  unfold mkM dsc
  repeat rw [mwr_ne _ _ _ (by omega)]
  rw [if_neg (by omega)]
  repeat rw [mwr_ne _ _ _ (by omega)]
theorem mkM_1 {M : Mem} {top k st n a f p : Nat} {t : T} : mkM M top k st n a f p t 1 11 = nI (top + 1) ∧ mkM M top k st n a f p t 1 12 = nI (st + n) := by
  unfold mkM dsc
  refine ⟨?_, ?_⟩
  · repeat rw [mwr_off _ _ _ (by omega)]
    rw [mwr_in _ (by omega), if_neg (by omega)]
    repeat rw [mwr_off _ _ _ (by omega)]
    rw [mwr_at]
  · repeat rw [mwr_off _ _ _ (by omega)]
    rw [mwr_at]
theorem mkM_old {M : Mem} {top k st n a f p : Nat} {t : T} {c i : Nat} (hc : 2 ≤ c) (hc2 : c ≤ 12) (h9 : c ≠ 9) (h10 : c ≠ 10) (hi : i ≠ top) : mkM M top k st n a f p t c i = M c i := by
  unfold mkM dsc mwr
  rcases (show c = 2 ∨ c = 3 ∨ c = 4 ∨ c = 5 ∨ c = 6 ∨ c = 7 ∨ c = 8 ∨ c = 11 ∨ c = 12 by omega) with rfl | rfl | rfl | rfl | rfl | rfl | rfl | rfl | rfl <;> simp [upd, hi]
theorem mkM_new {M : Mem} {top k st n a f p : Nat} {t : T} : mkM M top k st n a f p t 2 top = nI k ∧ mkM M top k st n a f p t 3 top = nI st ∧ mkM M top k st n a f p t 4 top = nI n ∧ mkM M top k st n a f p t 5 top = nI (size t) ∧ mkM M top k st n a f p t 6 top = nI (sgn t) ∧ mkM M top k st n a f p t 7 top = bI (tae t) ∧ mkM M top k st n a f p t 8 top = nI (fl t) ∧ mkM M top k st n a f p t 11 top = M 10 p ∧ mkM M top k st n a f p t 12 top = nI p := by
  unfold mkM dsc mwr
  refine ⟨?_, ?_, ?_, ?_, ?_, ?_, ?_, ?_, ?_⟩ <;> simp [upd]
theorem mkM_10 {M : Mem} {top k st n a f p : Nat} {t : T} {q : Nat} : mkM M top k st n a f p t 10 q = if q = p then nI top else M 10 q := by
  unfold mkM dsc mwr
  simp [upd]
theorem mkM_9 {M : Mem} {top k st n a f p : Nat} {t : T} {q : Nat} (ha : 13 ≤ a) : mkM M top k st n a f p t 9 q = if st ≤ q ∧ q < st + n then M a (f + (q - st)) else M 9 q := by
  have e : ∀ c, 13 ≤ c → c ≠ 1 ∧ c ≠ 2 ∧ c ≠ 3 ∧ c ≠ 4 ∧ c ≠ 10 ∧ c ≠ 11 ∧ c ≠ 12 := fun c _ => by omega
  obtain ⟨e1, e2, e3, e4, e5, e6, e7⟩ := e a ha
  unfold mkM dsc mwr
  simp [va_cpy, e1, e2, e3, e4, e5, e6, e7]
theorem FT_mk {M : Mem} {tb : List T} (h : FT M tb) {k a f p : Nat} {ts : List T} {r : Nat → Nat} (hk1 : 16 ≤ k) (hAR : AR (nd k ts) = true) (hnew : nd k ts ∉ tb) (hcap : tb.length < 2032) (hcap2 : stof tb tb.length + ts.length ≤ 8192) (ha : 13 ≤ a) (hrw : RW M tb a f ts r) (hp : p < 512) (hpl : plc (hsh (nI k) (rowI r ts.length)) = nI p) : FT (mkM M (16 + tb.length) k (stof tb tb.length) ts.length a f p (nd k ts)) (tb ++ [nd k ts]) := by
  obtain ⟨h1, h2, h3, h4, h5, h6, h7, h8, h9, h10⟩ := h
  generalize hM' : mkM M (16 + tb.length) k (stof tb tb.length) ts.length a f p (nd k ts) = M'
  have old : ∀ c i, 2 ≤ c → c ≤ 12 → c ≠ 9 → c ≠ 10 → i ≠ 16 + tb.length → M' c i = M c i := fun c i a1 a2 a3 a4 a5 => by rw [← hM']; exact mkM_old a1 a2 a3 a4 a5
  have new := @mkM_new M (16 + tb.length) k (stof tb tb.length) ts.length a f p (nd k ts)
  rw [hM'] at new
  have o1 := @mkM_1 M (16 + tb.length) k (stof tb tb.length) ts.length a f p (nd k ts)
  rw [hM'] at o1
  have o9 : ∀ q, M' 9 q = if stof tb tb.length ≤ q ∧ q < stof tb tb.length + ts.length then M a (f + (q - stof tb tb.length)) else M 9 q := fun q => by rw [← hM']; exact mkM_9 ha
  have o10 : ∀ q, M' 10 q = if q = p then nI (16 + tb.length) else M 10 q := fun q => by rw [← hM']; exact mkM_10
  have hlen : (tb ++ [nd k ts]).length = tb.length + 1 := by simp
  have hst : stof (tb ++ [nd k ts]) (tb.length + 1) = stof tb tb.length + ts.length := by
    rw [stof_succ (by rw [hlen]; omega), stof_app (Nat.le_refl _), List.getElem_concat_length (by rfl), nkid_nd]
  have pv : ∀ n q, n ≤ 16 + tb.length → prv M' n q = prv M n q := fun n q hn => prv_congr n q (fun id hid => old 12 id (by omega) (by omega) (by omega) (by omega) (by omega))
  have ge : ∀ {i : Nat} (hi : i < tb.length) (hi' : i < (tb ++ [nd k ts]).length), (tb ++ [nd k ts])[i] = tb[i] := fun hi hi' => List.getElem_append_left hi
  have gl : ∀ (hi' : tb.length < (tb ++ [nd k ts]).length), (tb ++ [nd k ts])[tb.length] = nd k ts := fun hi' => by simp
  refine ⟨⟨?_, ?_⟩, by rw [hlen]; omega, by rw [hlen, hst]; exact hcap2, by rw [hlen, o1.1, Nat.add_assoc], by rw [hlen, hst, o1.2], fun id hid => ?_, fun i hi => ?_, fun i hi j hj => ?_, fun i hi => ?_, fun q hq => ?_⟩
  · rw [List.nodup_append]
    refine ⟨h1.1, by simp, fun x hx y hy e => ?_⟩
    rw [List.mem_singleton.mp hy] at e
    exact hnew (e ▸ hx)
  · intro t ht
    rcases List.mem_append.mp ht with ht | ht
    · exact h1.2 t ht
    · rw [List.mem_singleton.mp ht]
      exact ⟨hAR, hk1⟩
  · rw [hlen] at hid
    by_cases hid2 : id < 16 + tb.length
    · rw [dn_snoc hid2]
      obtain ⟨a1, a2, a3, a4, a5, a6⟩ := h6 id hid2
      unfold attr
      rw [old 2 id (by omega) (by omega) (by omega) (by omega) (by omega), old 4 id (by omega) (by omega) (by omega) (by omega) (by omega), old 5 id (by omega) (by omega) (by omega) (by omega) (by omega), old 6 id (by omega) (by omega) (by omega) (by omega) (by omega), old 7 id (by omega) (by omega) (by omega) (by omega) (by omega), old 8 id (by omega) (by omega) (by omega) (by omega) (by omega)]
      exact ⟨a1, a2, a3, a4, a5, a6⟩
    · have : id = 16 + tb.length := by omega
      subst this
      rw [dn_last]
      refine ⟨new.1, ?_, new.2.2.2.1, new.2.2.2.2.1, new.2.2.2.2.2.1, new.2.2.2.2.2.2.1⟩
      rw [new.2.2.1]
      show _ = nI (kids (nd k ts)).length
      rw [kids_nd]
  · rw [hlen] at hi
    by_cases hi2 : i < tb.length
    · rw [old 3 (16 + i) (by omega) (by omega) (by omega) (by omega) (by omega), stof_app (by omega)]
      exact h7 i hi2
    · have : i = tb.length := by omega
      subst this
      rw [stof_app (Nat.le_refl _)]
      exact new.2.1
  · by_cases hi2 : i < tb.length
    · simp only [ge hi2 hi] at hj ⊢
      rw [stof_app (by omega)]
      obtain ⟨id, b1, b2, b3⟩ := h8 i hi2 j hj
      refine ⟨id, b1, ?_, by rw [dn_snoc (by omega)]; exact b3⟩
      have s1 := stof_succ hi2
      have s2 := stof_mono (tb := tb) (i := i + 1) (j := tb.length) (by omega)
      have hj' : j < nkid tb[i] := hj
      rw [o9, if_neg (by omega)]
      exact b2
    · have : i = tb.length := by rw [hlen] at hi; omega
      subst this
      simp only [gl hi] at hj ⊢
      have hj' : j < ts.length := by rw [← kids_nd k ts]; exact hj
      obtain ⟨g1, g2, g3⟩ := hrw j hj'
      rw [stof_app (Nat.le_refl _)]
      refine ⟨r j, g1, ?_, ?_⟩
      · rw [o9, if_pos (by omega), show f + (stof tb tb.length + j - stof tb tb.length) = f + j by omega]
        exact g2
      · rw [dn_snoc g1, g3]
        simp [kids_nd]
  · by_cases hi2 : i < tb.length
    · rw [ge hi2 hi, stof_app (by omega), old 12 (16 + i) (by omega) (by omega) (by omega) (by omega) (by omega), old 11 (16 + i) (by omega) (by omega) (by omega) (by omega) (by omega)]
      obtain ⟨q1, p', q2, q3, q4⟩ := h9 i hi2
      have ek : kidsAt M' (stof tb i) (nkid tb[i]) = kidsAt M (stof tb i) (nkid tb[i]) := by
        unfold kidsAt
        apply List.map_congr_left
        intro j hj
        rw [List.mem_range] at hj
        have s1 := stof_succ hi2
        have s2 := stof_mono (tb := tb) (i := i + 1) (j := tb.length) (by omega)
        rw [o9, if_neg (by omega)]
      rw [ek]
      exact ⟨q1, p', q2, q3, by rw [pv _ _ (by omega)]; exact q4⟩
    · have : i = tb.length := by rw [hlen] at hi; omega
      subst this
      rw [gl hi, stof_app (Nat.le_refl _), kind_nd, new.2.2.2.2.2.2.2.2, new.2.2.2.2.2.2.2.1]
      have ek : kidsAt M' (stof tb tb.length) (nkid (nd k ts)) = rowI r ts.length := by
        have e1 : nkid (nd k ts) = ts.length := by show (kids (nd k ts)).length = _; rw [kids_nd]
        rw [e1]
        unfold kidsAt rowI
        apply List.map_congr_left
        intro j hj
        rw [List.mem_range] at hj
        rw [o9, if_pos (by omega), show f + (stof tb tb.length + j - stof tb tb.length) = f + j by omega]
        exact (hrw j hj).2.1
      rw [ek, hpl]
      exact ⟨rfl, p, hp, rfl, by rw [pv _ _ (Nat.le_refl _)]; exact h10 p hp⟩
  · rw [hlen, show 16 + (tb.length + 1) = (16 + tb.length) + 1 by omega, o10]
    unfold prv
    rw [new.2.2.2.2.2.2.2.2]
    by_cases hqp : q = p
    · subst hqp
      rw [if_pos rfl, if_pos ⟨by omega, rfl⟩]
    · rw [if_neg hqp, if_neg (fun e => hqp ((nI_eq (by omega) (by omega)).mp e.2).symm), pv _ _ (Nat.le_refl _)]
      exact h10 q hq
theorem make_119 {M : Mem} {tb : List T} (h : FT M tb) {k a f p : Nat} {ts : List T} {r : Nat → Nat} (hk1 : 16 ≤ k) (hk2 : k ≤ 21) (hcap : tb.length < 2032) (hcap2 : stof tb tb.length + ts.length ≤ 8192) (ha : 13 ≤ a) (hrl : f + ts.length ≤ rlen a) (hra : rlen a < 2147483648) (hrw : RW M tb a f ts r) (hp : p < 512) : f_X1_make_119 (nI k) a (nI f) (nI ts.length) (nI p) M = some (nI (16 + tb.length), mkM M (16 + tb.length) k (stof tb tb.length) ts.length a f p (nd k ts)) := by
  have hl := h.2.1
  have h4 := h.2.2.2.1
  have h5 := h.2.2.2.2.1
  unfold f_X1_make_119
  rw [h4, h5]
  simp (disch := omega) only [nlt, show 16 + tb.length < 2048 by omega, if_true, nsub, show ¬ 8192 - stof tb tb.length < ts.length by omega, if_false, mpi_n, Option.bind_some, nI_add, mst_n, mrd_n]
  have e1 : mwr (mwr M 1 11 (nI (16 + tb.length + 1))) 12 (16 + tb.length) (nI p) 10 p = M 10 p := by
    rw [mwr_off _ _ _ (by omega), mwr_off _ _ _ (by omega)]
  rw [e1]
  generalize hM8 : mwr (mwr (mwr (mwr (mwr M 1 11 (nI (16 + tb.length + 1))) 12 (16 + tb.length) (nI p)) 11 (16 + tb.length) (M 10 p)) 10 p (nI (16 + tb.length))) 2 (16 + tb.length) (nI k) = M8
  have e2 : M8 1 12 = nI (stof tb tb.length) := by
    rw [← hM8, mwr_off _ _ _ (by omega), mwr_off _ _ _ (by omega), mwr_off _ _ _ (by omega), mwr_off _ _ _ (by omega), mwr_in _ (by omega)]
    exact h5
  rw [e2]
  generalize hM10 : mwr (mwr M8 3 (16 + tb.length) (nI (stof tb tb.length))) 4 (16 + tb.length) (nI ts.length) = M10
  have e3 : M10 1 12 = nI (stof tb tb.length) := by
    rw [← hM10, mwr_off _ _ _ (by omega), mwr_off _ _ _ (by omega)]
    exact e2
  rw [e3, mcp_n hrl hcap2 hra (by omega), Option.bind_some]
  simp (disch := omega) only [show ¬ (1 : Nat) = 9 by omega, if_false, e3, nI_add]
  generalize hM12 : mwr (fun c => if c = 9 then va_cpy (M10 a) (M10 9) f (stof tb tb.length) ts.length else M10 c) 1 12 (nI (stof tb tb.length + ts.length)) = M12
  have cell : ∀ c i, c ≠ 9 → c ≠ 1 → c ≠ 2 → c ≠ 3 → c ≠ 4 → c ≠ 10 → c ≠ 11 → c ≠ 12 → M12 c i = M c i := by
    intro c i g1 g2 g3 g4 g5 g6 g7 g8
    rw [← hM12, mwr_off _ _ _ (by omega), if_neg g1, ← hM10, mwr_off _ _ _ (by omega), mwr_off _ _ _ (by omega), ← hM8]
    repeat rw [mwr_off _ _ _ (by omega)]
  have cell2 : ∀ c i, c = 2 ∨ c = 4 → i ≠ 16 + tb.length → M12 c i = M c i := by
    intro c i g1 g2
    rw [← hM12, mwr_off _ _ _ (by omega), if_neg (by omega), ← hM10, ← hM8]
    rcases g1 with rfl | rfl
    · rw [mwr_off _ _ _ (by omega), mwr_off _ _ _ (by omega), mwr_in _ g2]
      repeat rw [mwr_off _ _ _ (by omega)]
    · rw [mwr_in _ g2, mwr_off _ _ _ (by omega)]
      repeat rw [mwr_off _ _ _ (by omega)]
  have c9 : ∀ j, j < ts.length → M12 9 (stof tb tb.length + j) = nI (r j) := by
    intro j hj
    rw [← hM12, mwr_off _ _ _ (by omega), if_pos rfl, pk_cpy_in (by omega) (by omega), show f + (stof tb tb.length + j - stof tb tb.length) = f + j by omega, ← (hrw j hj).2.1, ← hM10, ← hM8]
    repeat rw [mwr_off _ _ _ (by omega)]
  have hd := describe_ok (M := M12) (tb := tb) (q0 := 16 + tb.length) (k := k) (s := stof tb tb.length) (ts := ts) (r := r) (by omega) hk1 hk2 hl hcap2 (by
      rw [← hM12, mwr_off _ _ _ (by omega), if_neg (by omega), ← hM10, mwr_off _ _ _ (by omega), mwr_off _ _ _ (by omega), ← hM8, mwr_at]) (by
      rw [← hM12, mwr_off _ _ _ (by omega), if_neg (by omega), ← hM10, mwr_off _ _ _ (by omega), mwr_at]) (by
      rw [← hM12, mwr_at]) (fun j hj => ⟨(hrw j hj).1, c9 j hj, (hrw j hj).2.2⟩) (fun j hj => by
      obtain ⟨a1, a2, a3, a4, a5, a6⟩ := h.2.2.2.2.2.1 j hj
      unfold attr
      rw [cell2 2 j (Or.inl rfl) (by omega), cell2 4 j (Or.inr rfl) (by omega), cell 5 j (by omega) (by omega) (by omega) (by omega) (by omega) (by omega) (by omega) (by omega), cell 6 j (by omega) (by omega) (by omega) (by omega) (by omega) (by omega) (by omega) (by omega), cell 7 j (by omega) (by omega) (by omega) (by omega) (by omega) (by omega) (by omega) (by omega), cell 8 j (by omega) (by omega) (by omega) (by omega) (by omega) (by omega) (by omega) (by omega)]
      exact ⟨a1, a2, a3, a4, a5, a6⟩)
  rw [hd, Option.bind_some, ← hM12, ← hM10, ← hM8]
  rfl
/-- a form of the kind k of the forms of a row: as it is there, or a new node -/
theorem make_ok {M : Mem} {tb : List T} (h : FT M tb) {k a f : Nat} {ts : List T} {r : Nat → Nat} (hk1 : 16 ≤ k) (hAR : AR (nd k ts) = true) (hcap : nd k ts ∉ tb → tb.length < 2032 ∧ stof tb tb.length + ts.length ≤ 8192) (ha : 13 ≤ a) (hrl : f + ts.length ≤ rlen a) (hrw : RW M tb a f ts r) : ∃ (id : Nat) (M' : Mem) (tc : List T), f_X1_make (nI k) a (nI f) (nI ts.length) M = some (nI id, M') ∧ FT M' (tb ++ tc) ∧ id < 16 + (tb ++ tc).length ∧ dn (tb ++ tc) id = nd k ts ∧ ((tc = [] ∧ M' = M) ∨ (tc = [nd k ts] ∧ nd k ts ∉ tb)) ∧ ∀ c, c = 0 ∨ 13 ≤ c → M' c = M c := by
  have hk2 : k ≤ 21 := by
    have := AR_le hAR
    rwa [kind_nd] at this
  have hra : rlen a < 2147483648 := by
    unfold rlen
    split
    · omega
    · split <;> omega
  have hl := h.2.1
  obtain ⟨p, hp, hpl⟩ := plc_n (hsh (nI k) (rowI r ts.length))
  have e1 : f_X1_make (nI k) a (nI f) (nI ts.length) M = f_X1_make_74 fuelN (nI k) a (nI f) (nI ts.length) (nI p) (nI (prv M (16 + tb.length) p)) (nI 0) M := by
    unfold f_X1_make
    have hf : f ≤ rlen a := by omega
    simp (disch := omega) only [nlt, Nat.not_lt_zero, if_false, nsub, show ¬ rlen a - f < ts.length by omega]
    have := make_21 (M := M) (a := a) (f := f) (n := ts.length) (r := r) (x1 := nI k) hrl hra (fun j hj => (hrw j hj).2.1) fuelN 0 (by
      have : rlen a ≤ 2048 := by
        unfold rlen
        split
        · omega
        · split <;> omega
      unfold fuelN
      omega) (by omega)
    have e0 : hsh (nI k) (rowI r 0) = nI k := rfl
    rw [e0] at this
    rw [this, hpl, mrd_n hp (by omega), Option.bind_some, h.2.2.2.2.2.2.2.2.2 p hp]
  have hpv : prv M (16 + tb.length) p < 16 + tb.length := by
    rcases prv_spec M (16 + tb.length) p with ⟨z, -⟩ | ⟨-, z, -⟩ <;> omega
  rcases make_74 h (k := k) (a := a) (f := f) (p := p) (ts := ts) (r := r) hk1 (by omega) hrl hra hrw hp hpl fuelN (16 + tb.length) 0 (by unfold fuelN; omega) (by omega) (Nat.le_refl _) (fun i hi hlim => by omega) with ⟨id, g1, g2, g3⟩ | ⟨g1, g2⟩
  · exact ⟨id, M, [], by rw [e1, g3], by rw [List.append_nil]; exact h, by rw [List.append_nil]; exact g1, by rw [List.append_nil]; exact g2, Or.inl ⟨rfl, rfl⟩, fun _ _ => rfl⟩
  · obtain ⟨c1, c2⟩ := hcap g1
    refine ⟨16 + tb.length, mkM M (16 + tb.length) k (stof tb tb.length) ts.length a f p (nd k ts), [nd k ts], by rw [e1, g2]; exact make_119 h hk1 hk2 c1 c2 ha hrl hra hrw hp, FT_mk h hk1 hAR g1 c1 c2 ha hrw hp hpl, by simp, dn_last, Or.inr ⟨rfl, g1⟩, fun c hc => mkM_far hc⟩
