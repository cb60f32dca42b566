/-! the model: putOne, putIn, endPut, both -/
theorem po_121 {M : Mem} {tb : List T} (h : MT M tb) {row : List T} {r : Nat → Nat} (hrl : row.length ≤ 3999) (h14 : M 218 14 = nI row.length) (hrw : RW M tb 230 0 row r) {id : Nat} (hid : id < 16 + tb.length) (hnot : ∀ j, j < row.length → r j ≠ id) :
    ∀ (n pl : Nat), pl ≤ row.length → row.length - pl < n → (∀ j (hj : j < row.length), j < pl → ah row[j] (dn tb id) = true) → ∃ pl', pl' ≤ row.length ∧ (∀ j (hj : j < row.length), j < pl' → ah row[j] (dn tb id) = true) ∧ (∀ hj : pl' < row.length, ah row[pl'] (dn tb id) = false) ∧ f_X7_putOne_121 n (nI id) (nI pl) M = f_X7_putOne_157 fuelN (nI id) (nI pl') (nI row.length) M := by
  intro n
  induction n with
  | zero => intro pl _ h; omega
  | succ n ih =>
    intro pl h1 h2 h3
    rw [f_X7_putOne_121]
    unfold f_X7_putOne_151
    by_cases hp : pl < row.length
    · obtain ⟨r1, r2, r3⟩ := hrw pl hp
      rw [Nat.zero_add] at r2
      simp (disch := omega) only [h14, nlt, hp, if_true, mrd_n, Option.bind_some, r2, isAhead_ok h (hnot pl hp) r1 hid, bI_0', nI_add]
      rw [r3]
      cases hah : ah row[pl] (dn tb id) with
      | true =>
        simp only [Bool.true_eq_false, if_false]
        refine ih (pl + 1) (by omega) (by omega) (fun j hj hj2 => ?_)
        by_cases q : j < pl
        · exact h3 j hj q
        · have : j = pl := by omega
          subst this
          exact hah
      | false =>
        simp only [if_true]
        exact ⟨pl, h1, h3, fun _ => hah, rfl⟩
    · simp (disch := omega) only [h14, nlt, hp, if_false]
      exact ⟨pl, h1, h3, fun hj => absurd hj hp, rfl⟩
theorem po_157 {M0 : Mem} {id pl len : Nat} (hl : len ≤ 3998) (h14 : M0 218 14 = nI len) : ∀ (n k : Nat) (M : Mem), pl ≤ k → k ≤ len → k - pl < n → (∀ c, c ≠ 230 → M c = M0 c) → (∀ i, i ≤ k → M 230 i = M0 230 i) → (∀ i, k < i → i ≤ len → M 230 i = M0 230 (i - 1)) →
    ∃ M', f_X7_putOne_157 n (nI id) (nI pl) (nI k) M = some (nI 0, M') ∧ (∀ c, c ≠ 218 → c ≠ 230 → M' c = M0 c) ∧ M' 218 14 = nI (len + 1) ∧ (∀ i, i ≠ 14 → M' 218 i = M0 218 i) ∧ (∀ i, i < pl → M' 230 i = M0 230 i) ∧ M' 230 pl = nI id ∧ ∀ i, pl < i → i ≤ len → M' 230 i = M0 230 (i - 1) := by
  intro n
  induction n with
  | zero => intro k M _ _ h; omega
  | succ n ih =>
    intro k M h1 h2 h3 h4 h5 h6
    rw [f_X7_putOne_157]
    by_cases hk : pl < k
    · simp (disch := omega) only [nlt, hk, if_true, nsub, mrd_n, Option.bind_some, mst_n]
      refine ih (k - 1) _ (by omega) (by omega) (by omega) (fun c hc => by rw [mwr_ne _ _ _ hc, h4 c hc]) (fun i hi => by rw [mwr_in _ (by omega), h5 i (by omega)]) (fun i hi hi2 => ?_)
      by_cases e : i = k
      · subst e
        rw [mwr_at, h5 (i - 1) (by omega)]
      · rw [mwr_in _ e, h6 i (by omega) hi2]
    · have : k = pl := by omega
      subst this
      have m14 : mwr M 230 k (nI id) 218 14 = nI len := by rw [mwr_off _ _ _ (by omega), h4 218 (by omega)]; exact h14
      simp (disch := omega) only [nlt, Nat.lt_irrefl, if_false, mst_n, Option.bind_some, mpi_n, m14, nI_add]
      refine ⟨_, rfl, fun c a b => by rw [mwr_ne _ _ _ a, mwr_ne _ _ _ b, h4 c b], mwr_at _ _ _ _, fun i hi => by rw [mwr_in _ hi, mwr_off _ _ _ (by omega), h4 218 (by omega)], fun i hi => ?_, ?_, fun i hi hi2 => ?_⟩
      · rw [mwr_off _ _ _ (by omega), mwr_in _ (by omega), h5 i (by omega)]
      · rw [mwr_off _ _ _ (by omega), mwr_at]
      · rw [mwr_off _ _ _ (by omega), mwr_in _ (by omega), h6 i hi hi2]
theorem neu_15 {k : Nat} (hk : k = 20 ∨ k = 21) {F : Int32 → Option Rv} : (if nI (k - 15) = nI 5 then F (nI 1) else F (nI 0)) = F (nI (neu k)) := by
  rcases hk with rfl | rfl <;> rfl
theorem putOne_ok {M : Mem} {tb : List T} (h : MT M tb) {k : Nat} (hk : k = 20 ∨ k = 21) {its : List T} (hJ : JM M tb k its) (hb : its.length ≤ 3998) {id : Nat} (hid : id < 16 + tb.length) : ∃ M', f_X7_putOne (nI (k - 15)) (nI id) M = some (nI 0, M') ∧ MT M' tb ∧ JM M' tb k (its ++ [dn tb id]) ∧ FPut M M' := by
  have hl := h.2.1
  have hn := neu_lt k
  obtain ⟨j15, jA, r, j14, jrw⟩ := hJ
  have hxA := MT_AR h hid
  have hkd := dn_kind h.1 hid
  have hrl := rowM_len its
  have hAR2 : allAR (its ++ [dn tb id]) := fun t ht => by
    rcases List.mem_append.mp ht with ht | ht
    · exact jA t ht
    · rw [List.mem_singleton.mp ht]; exact hxA
  have hsnoc := rowM_snoc its (dn tb id)
  have e0 : f_X7_putOne (nI (k - 15)) (nI id) M = f_X7_putOne_10 (nI id) (nI (neu k)) M := neu_15 (F := fun s => f_X7_putOne_10 (nI id) s M) hk
  rw [e0]
  unfold f_X7_putOne_10
  by_cases h2 : id < 2
  · have kx := hkd.1 (by omega)
    unfold f_X7_putOne_29 f_X7_putOne_34
    simp (disch := omega) only [nlt, h2, if_true, j15, bI_0', neq, mpz_0, mpz_1, Option.bind_some]
    have fin : ∀ b : Bool, b = (absb k its || decide (id ≠ neu k)) → ∃ M', some (nI 0, mwr M 218 15 (bI b)) = some (nI 0, M') ∧ MT M' tb ∧ JM M' tb k (its ++ [dn tb id]) ∧ FPut M M' := by
      intro b hb2
      have f : FPut M (mwr M 218 15 (bI b)) := ⟨fun c a _ => mwr_ne _ _ _ a, fun i _ q => mwr_in _ q⟩
      rw [if_pos (by omega)] at hsnoc
      refine ⟨_, rfl, h.put f, ⟨?_, hAR2, r, ?_, ?_⟩, f⟩
      · rw [mwr_at, absb_low (by omega), kx, hb2]
      · rw [hsnoc, mwr_in _ (by omega)]; exact j14
      · rw [hsnoc]
        intro j hj
        rw [mwr_off _ _ _ (by omega)]
        exact jrw j hj
    by_cases hz : absb k its = false
    · rw [if_pos hz]
      by_cases hq : id = neu k
      · rw [if_pos hq]
        exact fin false (by rw [hz, decide_eq_false (fun q => q hq)]; rfl)
      · rw [if_neg hq]
        exact fin true (by rw [hz, decide_eq_true hq]; rfl)
    · rw [if_neg hz]
      exact fin true (by
        have : absb k its = true := by simpa using hz
        rw [this]; rfl)
  · simp (disch := omega) only [nlt, h2, if_false]
    have hMw : M = mwr M 218 15 (bI (absb k its)) := by
      funext a i
      by_cases q : a = 218
      · subst q
        by_cases p : i = 15
        · subst p; rw [mwr_at, j15]
        · rw [mwr_in _ p]
      · rw [mwr_off _ _ _ q]
    obtain ⟨hd', ab', p1, p2, p3⟩ := po_47 h (by omega) j14 jrw (by omega) hid (nI 0) fuelN 0 false (absb k its) (Nat.zero_le _) (by unfold fuelN; omega)
    rw [bI_f, ← hMw] at p1
    rw [p1]
    have f1 : FPut M (mwr M 218 15 (bI ab')) := ⟨fun c a _ => mwr_ne _ _ _ a, fun i _ q => mwr_in _ q⟩
    have hkx2 : 2 ≤ kind (dn tb id) := by
      rcases Nat.lt_or_ge id 16 with q | q
      · rw [hkd.1 q]; omega
      · have := hkd.2 q; omega
    rw [if_neg (by omega)] at hsnoc
    -- what is absorbed
    have hab : ab' = absb k (its ++ [dn tb id]) := by
      apply bool_iff
      rw [p3]
      rcases Nat.lt_or_ge id 16 with q | q
      · have kx := hkd.1 q
        obtain ⟨o1, o2, o3, o4⟩ := opk_2 (show 2 ≤ id by omega) q
        rw [absb_mid hkx2 (by omega), kx, Bool.or_eq_true, has_rowM jA o1 o2]
        constructor
        · rintro (a | ⟨i, -, i2, -, i4⟩)
          · exact Or.inl a
          · obtain ⟨-, -, b3⟩ := jrw i i2
            rw [i4, dn_lf o2] at b3
            exact Or.inr (by rw [b3]; exact List.getElem_mem _)
        · rintro (a | a)
          · exact Or.inl a
          · obtain ⟨i, i2, e⟩ := List.getElem_of_mem a
            obtain ⟨b1, -, b3⟩ := jrw i i2
            exact Or.inr ⟨i, Nat.zero_le _, i2, q, dn_inj h.1 b1 (by omega) (by rw [b3, e, dn_lf o2])⟩
      · rw [absb_high (hkd.2 q)]
        constructor
        · rintro (a | ⟨i, -, -, i3, -⟩)
          · exact a
          · omega
        · exact fun a => Or.inl a
    by_cases hhd : hd' = true
    · rw [if_pos hhd]
      rcases p2.mp hhd with q | ⟨i, -, i2, i3⟩
      · cases q
      · have hin : dn tb id ∈ rowM its := by
          obtain ⟨-, -, b3⟩ := jrw i i2
          rw [← i3, b3]
          exact List.getElem_mem _
        rw [ins_had (rowM_srt its) hin] at hsnoc
        refine ⟨_, rfl, h.put f1, ⟨by rw [mwr_at, hab], hAR2, r, by rw [hsnoc, mwr_in _ (by omega)]; exact j14, ?_⟩, f1⟩
        rw [hsnoc]
        intro j hj
        rw [mwr_off _ _ _ (by omega)]
        exact jrw j hj
    · rw [if_neg hhd]
      have hnot : ∀ j, j < (rowM its).length → r j ≠ id := fun j hj e => hhd (p2.mpr (Or.inr ⟨j, Nat.zero_le _, hj, e⟩))
      have hnin : dn tb id ∉ rowM its := fun hin => by
        obtain ⟨j, hj, e⟩ := List.getElem_of_mem hin
        obtain ⟨b1, -, b3⟩ := jrw j hj
        exact hnot j hj (dn_inj h.1 b1 hid (by rw [b3, e]))
      have h1 := h.put f1
      have rw1 : RW (mwr M 218 15 (bI ab')) tb 230 0 (rowM its) r := fun j hj => by rw [mwr_off _ _ _ (by omega)]; exact jrw j hj
      have l1 : mwr M 218 15 (bI ab') 218 14 = nI (rowM its).length := by rw [mwr_in _ (by omega)]; exact j14
      generalize hM1 : mwr M 218 15 (bI ab') = M1 at *
      have m15 : M1 218 15 = bI ab' := by rw [← hM1, mwr_at]
      generalize hrow : rowM its = row at *
      have hsr : Srt row := by rw [← hrow]; exact rowM_srt its
      have hra : allAR row := by rw [← hrow]; exact rowM_AR jA
      obtain ⟨pl, a1, a2, a3, a4⟩ := po_121 h1 (by omega) l1 rw1 hid hnot fuelN 0 (Nat.zero_le _) (by unfold fuelN; omega) (fun j hj q => by omega)
      rw [a4]
      obtain ⟨M2, b0, b1, b2, b3, b4, b5, b6⟩ := po_157 (M0 := M1) (id := id) (pl := pl) (len := row.length) (by omega) l1 fuelN row.length M1 a1 (Nat.le_refl _) (by unfold fuelN; omega) (fun _ _ => rfl) (fun _ _ => rfl) (fun i q1 q2 => by omega)
      rw [b0]
      have f2 : FPut M1 M2 := ⟨b1, fun i q _ => b3 i q⟩
      have hins : ins row (dn tb id) = row.take pl ++ dn tb id :: row.drop pl := by
        have e := ins_at (p := row.take pl) (q := row.drop pl) (t := dn tb id) (fun y hy => ?_) (fun y hy => ?_)
        · rwa [List.take_append_drop] at e
        · obtain ⟨j, hj, rfl⟩ := List.getElem_of_mem hy
          rw [List.length_take] at hj
          rw [List.getElem_take]
          exact a2 j (by omega) (by omega)
        · obtain ⟨j, hj, rfl⟩ := List.getElem_of_mem hy
          rw [List.length_drop] at hj
          rw [List.getElem_drop]
          have q1 : ah row[pl] (dn tb id) = false := a3 (by omega)
          have q2 : ah (dn tb id) row[pl] = true := by
            by_cases q : ah (dn tb id) row[pl] = true
            · exact q
            · exact absurd (by rw [← ah_tri (hra _ (List.getElem_mem _)) hxA q1 (by simpa using q)]; exact List.getElem_mem _) hnin
          by_cases hj0 : j = 0
          · subst hj0; exact q2
          · exact ah_trans q2 (List.pairwise_iff_getElem.mp hsr pl (pl + j) (by omega) (by omega) (by omega))
      have hnl : (row.take pl ++ dn tb id :: row.drop pl).length = row.length + 1 := by
        rw [List.length_append, List.length_cons, List.length_take, List.length_drop]
        omega
      rw [hins] at hsnoc
      refine ⟨M2, rfl, h1.put f2, ⟨by rw [b3 15 (by omega), m15, hab], hAR2, fun j => if j < pl then r j else if j = pl then id else r (j - 1), by rw [hsnoc, hnl]; exact b2, fun j hj => ?_⟩, f1.tr f2⟩
      rw [hsnoc, hnl] at hj
      simp only [hsnoc, Nat.zero_add]
      by_cases a : j < pl
      · obtain ⟨q1, q2, q3⟩ := rw1 j (by omega)
        rw [Nat.zero_add] at q2
        rw [if_pos a, b4 j a]
        refine ⟨q1, q2, ?_⟩
        rw [q3, List.getElem_append_left (by rw [List.length_take]; omega), List.getElem_take]
      · by_cases b : j = pl
        · rw [if_neg a, if_pos b]
          subst b
          refine ⟨hid, b5, ?_⟩
          rw [List.getElem_append_right (by rw [List.length_take]; omega)]
          have e0 : j - (row.take j).length = 0 := by rw [List.length_take]; omega
          simp only [e0, List.getElem_cons_zero]
        · obtain ⟨q1, q2, q3⟩ := rw1 (j - 1) (by omega)
          rw [Nat.zero_add] at q2
          rw [if_neg a, if_neg b, b6 j (by omega) (by omega)]
          refine ⟨q1, q2, ?_⟩
          rw [q3, List.getElem_append_right (by rw [List.length_take]; omega)]
          have e0 : j - (row.take pl).length = (j - 1 - pl) + 1 := by rw [List.length_take]; omega
          simp only [e0, List.getElem_cons_succ, List.getElem_drop]
          congr 1
          omega
theorem mputIn_18 {tb : List T} {k : Nat} (hk : k = 20 ∨ k = 21) {id : Nat} (h16 : 16 ≤ id) (hid : id < 16 + tb.length) (hkk : kind (dn tb id) = k) :
    ∀ (n j : Nat) (M : Mem) (its : List T), MT M tb → JM M tb k its → j ≤ nkid (dn tb id) → nkid (dn tb id) - j < n → its.length + (nkid (dn tb id) - j) ≤ 3999 → ∃ M', f_X7_putIn_18 n (nI (k - 15)) (nI id) (nI j) M = some (nI 0, M') ∧ MT M' tb ∧ JM M' tb k (its ++ (kids (dn tb id)).drop j) ∧ FPut M M' := by
  intro n
  induction n with
  | zero => intro j M its _ _ _ h; omega
  | succ n ih =>
    intro j M its h hJ h1 h2 h3
    have hl := h.2.1
    obtain ⟨-, n2⟩ := MT_node h h16 hid
    obtain ⟨s, hs, q1, q2, ki, q3⟩ := n2 (by omega)
    rw [f_X7_putIn_18]
    unfold f_X7_putIn_61
    rw [mrd_n (by omega) (by omega), Option.bind_some, q2]
    by_cases hj : j < nkid (dn tb id)
    · obtain ⟨k1, k2, k3⟩ := q3 j hj
      rw [if_pos ((nlt (by omega) (by omega)).mpr hj)]
      simp (disch := omega) only [mrd_n, Option.bind_some, q1, nI_add, k2]
      obtain ⟨M1, e1, f1, g1, o1⟩ := putOne_ok h hk hJ (by omega) (show ki j < 16 + tb.length by omega)
      rw [e1, Option.bind_some]
      obtain ⟨M2, e2, f2, g2, o2⟩ := ih (j + 1) M1 (its ++ [dn tb (ki j)]) f1 g1 (by omega) (by omega) (by rw [List.length_append]; simp; omega)
      refine ⟨M2, e2, f2, ?_, o1.tr o2⟩
      rw [List.drop_eq_getElem_cons (show j < (kids (dn tb id)).length from hj), ← k3]
      rw [List.append_assoc] at g2
      exact g2
    · have : j = nkid (dn tb id) := by omega
      rw [if_neg (fun q => hj ((nlt (by omega) (by omega)).mp q))]
      refine ⟨M, rfl, h, ?_, FPut.rfl' M⟩
      rw [this, show (kids (dn tb id)).drop (nkid (dn tb id)) = [] from List.drop_length, List.append_nil]
      exact hJ
theorem mputIn_ok {M : Mem} {tb : List T} (h : MT M tb) {k : Nat} (hk : k = 20 ∨ k = 21) {its : List T} (hJ : JM M tb k its) {id : Nat} (hid : id < 16 + tb.length) (hb : its.length + wdt k (dn tb id) ≤ 3999) : ∃ M', f_X7_putIn (nI (k - 15)) (nI id) M = some (nI 0, M') ∧ MT M' tb ∧ JM M' tb k (its ++ its1 k (dn tb id)) ∧ FPut M M' := by
  have hl := h.2.1
  have hkd := dn_kind h.1 hid
  have hk2 := AR_le (MT_AR h hid)
  rw [← its1_len] at hb
  unfold f_X7_putIn f_X7_putIn_55 f_X7_putIn_61
  have one : its1 k (dn tb id) = [dn tb id] → ∃ M', ((f_X7_putOne (nI (k - 15)) (nI id) M).bind fun q1 => some (nI 0, q1.2)) = some (nI 0, M') ∧ MT M' tb ∧ JM M' tb k (its ++ its1 k (dn tb id)) ∧ FPut M M' := fun e => by
    rw [e] at hb ⊢
    obtain ⟨M1, e1, f1, g1, o1⟩ := putOne_ok h hk hJ (by simp at hb; omega) hid
    rw [e1, Option.bind_some]
    exact ⟨M1, rfl, f1, g1, o1⟩
  rcases Nat.lt_or_ge id 16 with e | e
  · rw [if_pos ((nlt (by omega) (by omega)).mpr e)]
    exact one (if_neg (by rw [hkd.1 e]; omega))
  · rw [if_neg (fun q => by have := (nlt (by omega) (by omega)).mp q; omega)]
    have a := (h.2.2.2.2.2.1 id hid).1
    simp (disch := omega) only [mrd_n, Option.bind_some, a, neq]
    have kx := hkd.2 e
    by_cases q : kind (dn tb id) = k
    · rw [if_pos (show kind (dn tb id) - 15 = k - 15 by omega)]
      have e1 : its1 k (dn tb id) = kids (dn tb id) := if_pos q
      rw [e1] at hb ⊢
      have nk := MT_nk h hid
      obtain ⟨M', p1, p2, p3, p4⟩ := mputIn_18 hk e hid q fuelN 0 M its h hJ (Nat.zero_le _) (by unfold fuelN; omega) hb
      exact ⟨M', p1, p2, p3, p4⟩
    · rw [if_neg (show ¬ kind (dn tb id) - 15 = k - 15 by omega)]
      exact one (if_neg q)
def FB (M M' : Mem) : Prop := (∀ c, c = 219 ∨ c = 220 ∨ c = 221 ∨ c = 227 ∨ c = 228 ∨ 231 ≤ c → M' c = M c) ∧ ∀ i, 16 ≤ i → M' 218 i = M 218 i
theorem FB.rfl' (M : Mem) : FB M M := ⟨fun _ _ => rfl, fun _ _ => rfl⟩
theorem FB.tr {A B C : Mem} (h : FB A B) (g : FB B C) : FB A C := ⟨fun c hc => by rw [g.1 c hc, h.1 c hc], fun i hi => by rw [g.2 i hi, h.2 i hi]⟩
theorem FPut.fb {M M' : Mem} (h : FPut M M') : FB M M' := ⟨fun c hc => h.1 c (by omega) (by omega), fun i hi => h.2 i (by omega) (by omega)⟩
theorem FMk.fb {M M' : Mem} (h : FMk M M') : FB M M' := ⟨fun c hc => h.1 c (by omega), fun i hi => h.2 i (by omega)⟩
def CapM (tb : List T) (n : Nat) : Prop := tb.length < 7900 ∧ lsum tb tb.length + n ≤ 80000
theorem endPut_ok {M : Mem} {tb : List T} (h : MT M tb) {k : Nat} (hk : k = 20 ∨ k = 21) {its : List T} (hJ : JM M tb k its) (hlen : its.length ≤ 3999) (hcap : joinI k its ∉ tb → CapM tb its.length) :
    ∃ (id : Nat) (M' : Mem) (tc : List T), f_X7_endPut (nI (k - 15)) M = some (nI id, M') ∧ MT M' (tb ++ tc) ∧ id < 16 + (tb ++ tc).length ∧ dn (tb ++ tc) id = joinI k its ∧ (tc = [] ∨ (tc = [joinI k its] ∧ joinI k its ∉ tb ∧ nkid (joinI k its) ≤ its.length)) ∧ FB M M' := by
  have hl := h.2.1
  have hn := neu_lt k
  obtain ⟨j15, jA, r, j14, jrw⟩ := hJ
  have hrl := rowM_len its
  have e0 : f_X7_endPut (nI (k - 15)) M = f_X7_endPut_10 (nI (k - 15)) (nI (neu k)) M := neu_15 (F := fun s => f_X7_endPut_10 (nI (k - 15)) s M) hk
  have hdef : joinI k its = endT k (absb k its) (rowK k its) := rfl
  rw [e0]
  unfold f_X7_endPut_10 f_X7_endPut_57
  simp (disch := omega) only [j15, bI_0', j14, neq]
  have leaf : ∀ i, i < 16 → joinI k its = lf i → ∃ (id : Nat) (M' : Mem) (tc : List T), some (nI i, M) = some (nI id, M') ∧ MT M' (tb ++ tc) ∧ id < 16 + (tb ++ tc).length ∧ dn (tb ++ tc) id = joinI k its ∧ (tc = [] ∨ (tc = [joinI k its] ∧ joinI k its ∉ tb ∧ nkid (joinI k its) ≤ its.length)) ∧ FB M M' := fun i hi e => ⟨i, M, [], rfl, by rw [List.append_nil]; exact h, by omega, by rw [dn_lf hi, e], Or.inl rfl, FB.rfl' M⟩
  cases hab : absb k its with
  | true =>
    simp only [Bool.true_eq_false, if_false]
    rw [nsub (by omega)]
    refine leaf (1 - neu k) (by omega) ?_
    rw [hdef, hab]
    exact if_pos rfl
  | false =>
    have hrk := rowM_keep hab
    simp only [if_true]
    have hj2 : joinI k its = match rowM its with
      | [] => lf (neu k)
      | [x] => x
      | l => nd k l := by
      rw [hdef, hab, hrk]
      unfold endT
      rw [if_neg (by simp)]
      rfl
    by_cases h0 : (rowM its).length = 0
    · rw [if_pos h0]
      refine leaf (neu k) (by omega) ?_
      rw [hj2, List.length_eq_zero_iff.mp h0]
    · rw [if_neg h0]
      by_cases h1 : (rowM its).length = 1
      · rw [if_pos h1]
        obtain ⟨b1, b2, b3⟩ := jrw 0 (by omega)
        rw [Nat.zero_add] at b2
        simp (disch := omega) only [mrd_n, Option.bind_some, b2]
        refine ⟨r 0, M, [], rfl, by rw [List.append_nil]; exact h, by rw [List.append_nil]; exact b1, ?_, Or.inl rfl, FB.rfl' M⟩
        rw [List.append_nil, b3, hj2]
        obtain ⟨x, ex⟩ := List.length_eq_one_iff.mp h1
        simp only [ex, List.getElem_cons_zero]
      · rw [if_neg h1]
        have hnd : joinI k its = nd k (rowM its) := by
          rw [hj2]
          match rowM its, h0, h1 with
          | [], h0, _ => exact absurd rfl h0
          | [x], _, h1 => exact absurd rfl h1
          | x :: y :: l, _, _ => rfl
        have hA : AR (nd k (rowM its)) = true := by rw [← hnd]; exact joinI_AR hk jA
        obtain ⟨id, M', tc, e1, f1, i1, d1, l1, o1, -⟩ := mlist_ok h hk (by omega) hA j14 jrw (fun hnew => by
          rw [← hnd] at hnew
          have := hcap hnew
          exact ⟨this.1, by have := this.2; omega⟩)
        rw [e1, Option.bind_some]
        refine ⟨id, M', tc, rfl, f1, i1, by rw [d1, hnd], ?_, o1.fb⟩
        rcases l1 with l1 | ⟨l1, l2⟩
        · exact Or.inl l1
        · exact Or.inr ⟨by rw [l1, hnd], by rw [hnd]; exact l2, by rw [hnd, nkid_nd]; exact hrl⟩
theorem both_ok {M : Mem} {tb : List T} (h : MT M tb) {k : Nat} (hk : k = 20 ∨ k = 21) {a b : Nat} (ha : a < 16 + tb.length) (hb : b < 16 + tb.length) (hw : wdt k (dn tb a) + wdt k (dn tb b) ≤ 3999) (hcap : joinT k [dn tb a, dn tb b] ∉ tb → CapM tb (wdt k (dn tb a) + wdt k (dn tb b))) :
    ∃ (id : Nat) (M' : Mem) (tc : List T), f_X7_both (nI (k - 15)) (nI a) (nI b) M = some (nI id, M') ∧ MT M' (tb ++ tc) ∧ id < 16 + (tb ++ tc).length ∧ dn (tb ++ tc) id = joinT k [dn tb a, dn tb b] ∧ (tc = [] ∨ (tc = [joinT k [dn tb a, dn tb b]] ∧ joinT k [dn tb a, dn tb b] ∉ tb ∧ nkid (joinT k [dn tb a, dn tb b]) ≤ wdt k (dn tb a) + wdt k (dn tb b))) ∧ FB M M' := by
  obtain ⟨M1, e1, f1, g1, o1⟩ := mbegin_ok h k
  obtain ⟨M2, e2, f2, g2, o2⟩ := mputIn_ok f1 hk g1 ha (by simp; omega)
  obtain ⟨M3, e3, f3, g3, o3⟩ := mputIn_ok f2 hk g2 hb (by simp only [List.nil_append, its1_len]; exact hw)
  have hits : [] ++ its1 k (dn tb a) ++ its1 k (dn tb b) = items k [dn tb a, dn tb b] := by
    rw [items_cons, items_cons, items_nil, List.nil_append, List.append_nil]
  rw [hits] at g3
  have hlen : (items k [dn tb a, dn tb b]).length = wdt k (dn tb a) + wdt k (dn tb b) := by rw [items_len]; simp
  obtain ⟨id, M4, tc, e4, f4, g4, h4, i4, o4⟩ := endPut_ok f3 hk g3 (by omega) (fun hn => by rw [hlen]; exact hcap hn)
  refine ⟨id, M4, tc, ?_, f4, g4, h4, ?_, (((o1.tr o2).tr o3).fb).tr o4⟩
  · unfold f_X7_both
    rw [e1, Option.bind_some, e2, Option.bind_some, e3, Option.bind_some, e4, Option.bind_some]
  · rw [hlen] at i4
    exact i4
