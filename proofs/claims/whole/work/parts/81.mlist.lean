/-! the model's table: alls and anys -/
theorem isList_z {n : Nat} {x1 x4 : Int32} {M : Mem} : f_X7_isList_32 (n + 1) x1 (nI 0) x4 M = some (bI false, M) := by
  rw [f_X7_isList_32]
  unfold f_X7_isList_81
  simp only [if_true, mrz_0]
  split <;> rfl
theorem isList_32 {M : Mem} {tb : List T} (h : MT M tb) {id s : Nat} {ts : List T} {r ki : Nat → Nat} (hid : id < 16 + tb.length) (h1 : M 223 id = nI s) (hs : s + ts.length ≤ 80000) (hl : ts.length ≤ 4000) (h14 : M 218 14 = nI ts.length) (hrw : RW M tb 230 0 ts r) {us : List T} (hus : us.length = ts.length) (hki : ∀ j (hj : j < us.length), ki j < id ∧ M 229 (s + j) = nI (ki j) ∧ dn tb (ki j) = us[j]) :
    ∀ (n j : Nat), j ≤ ts.length → ts.length - j + 1 < n → (∀ i (hi : i < j) (h1 : i < us.length) (h2 : i < ts.length), us[i] = ts[i]) → ∃ b : Bool, f_X7_isList_32 n (nI id) (nI 1) (nI j) M = some (bI b, M) ∧ (b = true ↔ us = ts) := by
  have hlen := h.2.1
  intro n
  induction n with
  | zero => intro j _ h; omega
  | succ n ih =>
    intro j hj hn he
    rw [f_X7_isList_32]
    unfold f_X7_isList_81 f_X7_isList_74
    by_cases hjl : j < ts.length
    · obtain ⟨a1, a2, a3⟩ := hrw j hjl
      rw [Nat.zero_add] at a2
      obtain ⟨b1, b2, b3⟩ := hki j (by omega)
      simp (disch := omega) only [h14, nlt, hjl, if_true, neq, show ¬ (1 : Nat) = 0 by omega, if_false, mrd_n, Option.bind_some, h1, nI_add, a2, b2]
      by_cases e : ki j = r j
      · rw [if_pos e]
        refine ih (j + 1) (by omega) (by omega) (fun i hi p1 p2 => ?_)
        by_cases q : i < j
        · exact he i q p1 p2
        · have : i = j := by omega
          subst this
          rw [← b3, ← a3, e]
      · rw [if_neg e]
        obtain ⟨m, rfl⟩ : ∃ m, n = m + 1 := ⟨n - 1, by omega⟩
        refine ⟨false, isList_z, (fun q => by cases q), fun q => absurd (dn_inj h.1 (by omega) a1 ?_) e⟩
        rw [b3, a3]
        simp only [q]
    · have : j = ts.length := by omega
      subst this
      simp (disch := omega) only [h14, nlt, Nat.lt_irrefl, if_false, mrz_1]
      refine ⟨true, rfl, fun _ => ?_, fun _ => rfl⟩
      exact List.ext_getElem hus (fun i p1 p2 => he i p2 p1 p2)
theorem isList_ok {M : Mem} {tb : List T} (h : MT M tb) {id k : Nat} {ts : List T} {r : Nat → Nat} (h16 : 16 ≤ id) (hid : id < 16 + tb.length) (hk : k = 20 ∨ k = 21) (hl : ts.length ≤ 4000) (h14 : M 218 14 = nI ts.length) (hrw : RW M tb 230 0 ts r) :
    ∃ b : Bool, f_X7_isList (nI id) (nI (k - 15)) M = some (bI b, M) ∧ (b = true ↔ dn tb id = nd k ts) := by
  have hlen := h.2.1
  have hkx := (dn_kind h.1 hid).2 h16
  have hkx2 := AR_le (MT_AR h hid)
  have a1 := (h.2.2.2.2.2.1 id hid).1
  obtain ⟨-, n2⟩ := MT_node h h16 hid
  unfold f_X7_isList f_X7_isList_27 f_X7_isList_28
  have no : dn tb id ≠ nd k ts → ∃ b : Bool, f_X7_isList_32 fuelN (nI id) (nI 0) (nI 0) M = some (bI b, M) ∧ (b = true ↔ dn tb id = nd k ts) := fun hne => ⟨false, isList_z, (fun q => by cases q), fun q => absurd q hne⟩
  simp (disch := omega) only [mrd_n, Option.bind_some, a1, neq]
  by_cases q1 : kind (dn tb id) - 15 = k - 15
  · rw [if_pos q1]
    have hkk : kind (dn tb id) = k := by omega
    obtain ⟨s, hs, e1, e2, ki, e3⟩ := n2 (by omega)
    have hnk : nkid (dn tb id) ≤ 80000 := by omega
    rw [e2, h14]
    simp (disch := omega) only [neq]
    by_cases q2 : nkid (dn tb id) = ts.length
    · rw [if_pos q2]
      obtain ⟨b, hb1, hb2⟩ := isList_32 h hid e1 (by omega) hl h14 hrw (us := kids (dn tb id)) q2 e3 fuelN 0 (Nat.zero_le _) (by unfold fuelN; omega) (fun i hi => by omega)
      refine ⟨b, hb1, hb2.trans ⟨fun e => T_ext (by rw [hkk, kind_nd]) (by rw [e, kids_nd]), fun e => by rw [e, kids_nd]⟩⟩
    · rw [if_neg q2]
      exact no (fun e => q2 (by rw [e, nkid_nd]))
  · rw [if_neg q1]
    exact no (fun e => q1 (by rw [e, kind_nd]))
theorem mlist_3 {M : Mem} {tb : List T} (h : MT M tb) {k : Nat} {ts : List T} {r : Nat → Nat} (hk : k = 20 ∨ k = 21) (hl : ts.length ≤ 4000) (h14 : M 218 14 = nI ts.length) (hrw : RW M tb 230 0 ts r) :
    ∀ (n x : Nat), 16 ≤ x → x ≤ 16 + tb.length → 16 + tb.length - x < n → (∀ i (hi : i < tb.length), 16 + i < x → tb[i] ≠ nd k ts) →
    (∃ id, id < 16 + tb.length ∧ dn tb id = nd k ts ∧ f_X7_makeList_3 n (nI (k - 15)) (nI x) M = some (nI id, M)) ∨ (nd k ts ∉ tb ∧ f_X7_makeList_3 n (nI (k - 15)) (nI x) M = f_X7_makeList_3 1 (nI (k - 15)) (nI (16 + tb.length)) M) := by
  have hlen := h.2.1
  intro n
  induction n with
  | zero => intro x _ _ h3; omega
  | succ n ih =>
    intro x h1 h2 h3 h4
    by_cases hx : x < 16 + tb.length
    · rw [f_X7_makeList_3]
      have hi : x - 16 < tb.length := by omega
      have hxd : dn tb x = tb[x - 16] := by
        have := dn_nd (tb := tb) hi
        rwa [show 16 + (x - 16) = x by omega] at this
      obtain ⟨b, hb1, hb2⟩ := isList_ok h h1 hx hk hl h14 hrw
      simp (disch := omega) only [h.2.2.2.1, nlt, hx, if_true, hb1, Option.bind_some, bI_0', nI_add]
      cases b with
      | true =>
        simp only [Bool.true_eq_false, if_false]
        exact Or.inl ⟨x, hx, hb2.mp rfl, rfl⟩
      | false =>
        simp only [if_true]
        refine ih (x + 1) (by omega) (by omega) (by omega) (fun i hi2 hlt => ?_)
        by_cases q : 16 + i < x
        · exact h4 i hi2 q
        · have : i = x - 16 := by omega
          subst this
          rw [← hxd]
          exact fun e => by have := hb2.mpr e; cases this
    · have : x = 16 + tb.length := by omega
      subst this
      refine Or.inr ⟨fun hm => ?_, ?_⟩
      · obtain ⟨i, hi, e⟩ := List.getElem_of_mem hm
        exact h4 i hi (by omega) e
      · rw [f_X7_makeList_3]
        conv => rhs; rw [f_X7_makeList_3]
        simp (disch := omega) only [h.2.2.2.1, nlt, Nat.lt_irrefl, if_false]
/-- the copying of the row -/
def L91 (M0 M : Mem) (q ls : Nat) (ts : List T) (r : Nat → Nat) (j : Nat) : Prop :=
  (∀ c, c ≠ 218 → c ≠ 225 → c ≠ 226 → c ≠ 229 → M c = M0 c) ∧ (∀ i, i ≠ 12 → M 218 i = M0 218 i) ∧ M 218 12 = nI (ls + j) ∧ (∀ i, i ≠ q → M 225 i = M0 225 i ∧ M 226 i = M0 226 i) ∧ M 225 q = nI (1 + ((ts.take j).map size).sum) ∧ M 226 q = nI (1 + ts.length + ((ts.take j).map wid).sum) ∧ (∀ i, i < ls → M 229 i = M0 229 i) ∧ ∀ i, i < j → M 229 (ls + i) = nI (r i)
theorem mlist_91 {M0 : Mem} {tb : List T} {q ls : Nat} {ts : List T} {r : Nat → Nat} (hq : q = 16 + tb.length) (hlen : tb.length < 7900) (hls : ls + ts.length ≤ 80000) (hl : ts.length ≤ 4000) (h11 : M0 218 11 = nI q) (h14 : M0 218 14 = nI ts.length) (hrw : RW M0 tb 230 0 ts r) (hsz : ∀ id, id < 16 + tb.length → M0 225 id = nI (size (dn tb id)) ∧ M0 226 id = nI (wid (dn tb id))) :
    ∀ (n j : Nat) (M : Mem), j ≤ ts.length → ts.length - j < n → L91 M0 M q ls ts r j → ∃ M', f_X7_makeList_91 n (nI j) M = some (nI q, mwr M' 218 11 (nI (q + 1))) ∧ L91 M0 M' q ls ts r ts.length := by
  intro n
  induction n with
  | zero => intro j M _ h; omega
  | succ n ih =>
    intro j M hj hn hL
    obtain ⟨a1, a2, a3, a4, a5, a6, a7, a8⟩ := hL
    rw [f_X7_makeList_91]
    have m14 : M 218 14 = nI ts.length := by rw [a2 14 (by omega)]; exact h14
    have m11 : M 218 11 = nI q := by rw [a2 11 (by omega)]; exact h11
    by_cases hjl : j < ts.length
    · obtain ⟨r1, r2, r3⟩ := hrw j hjl
      rw [Nat.zero_add] at r2
      have m230 : M 230 j = nI (r j) := by rw [a1 230 (by omega) (by omega) (by omega) (by omega)]; exact r2
      have s1 : M 225 (r j) = nI (size ts[j]) := by rw [(a4 (r j) (by omega)).1, (hsz (r j) r1).1, r3]
      have s2 : M 226 (r j) = nI (wid ts[j]) := by rw [(a4 (r j) (by omega)).2, (hsz (r j) r1).2, r3]
      simp (disch := omega) only [m14, nlt, hjl, if_true, mrd_n, Option.bind_some, m230, a3, mst_n, mpi_n, mwr_off, nI_add]
      generalize hMA : mwr (mwr M 229 (ls + j) (nI (r j))) 218 12 (nI (ls + j + 1)) = MA
      have z11 : MA 218 11 = nI q := by rw [← hMA, mwr_in _ (by omega), mwr_off _ _ _ (by omega)]; exact m11
      have zf : ∀ c, c ≠ 218 → c ≠ 229 → MA c = M c := fun c p1 p2 => by rw [← hMA, mwr_ne _ _ _ p1, mwr_ne _ _ _ p2]
      simp (disch := omega) only [z11, mrd_n, Option.bind_some, zf 225, zf 230, a5, m230, s1, nI_add, mst_n, mwr_off, zf 226, a6, s2]
      refine ih (j + 1) _ (by omega) (by omega) ⟨fun c p1 p2 p3 p4 => ?_, fun i hi => ?_, ?_, fun i hi => ⟨?_, ?_⟩, ?_, ?_, fun i hi => ?_, fun i hi => ?_⟩
      · rw [mwr_ne _ _ _ p3, mwr_ne _ _ _ p2, zf c p1 p4, a1 c p1 p2 p3 p4]
      · rw [mwr_off _ _ _ (by omega), mwr_off _ _ _ (by omega), ← hMA, mwr_in _ hi, mwr_off _ _ _ (by omega), a2 i hi]
      · rw [mwr_off _ _ _ (by omega), mwr_off _ _ _ (by omega), ← hMA, mwr_at]
        congr 1
      · rw [mwr_off _ _ _ (by omega), mwr_in _ hi, zf 225 (by omega) (by omega), (a4 i hi).1]
      · rw [mwr_in _ hi, mwr_off _ _ _ (by omega), zf 226 (by omega) (by omega), (a4 i hi).2]
      · rw [mwr_off _ _ _ (by omega), mwr_at, take_sum size hjl]
        congr 1
        omega
      · rw [mwr_at, take_sum wid hjl]
        congr 1
        omega
      · rw [mwr_off _ _ _ (by omega), mwr_off _ _ _ (by omega), ← hMA, mwr_off _ _ _ (by omega), mwr_in _ (by omega), a7 i hi]
      · rw [mwr_off _ _ _ (by omega), mwr_off _ _ _ (by omega), ← hMA, mwr_off _ _ _ (by omega)]
        by_cases e : i = j
        · subst e
          rw [mwr_at]
        · rw [mwr_in _ (by omega), a8 i (by omega)]
    · have : j = ts.length := by omega
      subst this
      simp (disch := omega) only [m14, nlt, Nat.lt_irrefl, if_false, mpi_n, Option.bind_some, m11, nI_add, mwr_at, nsub, Nat.add_sub_cancel]
      exact ⟨M, rfl, a1, a2, a3, a4, a5, a6, a7, a8⟩
theorem mlist_ok {M : Mem} {tb : List T} (h : MT M tb) {k : Nat} {ts : List T} {r : Nat → Nat} (hk : k = 20 ∨ k = 21) (hl : ts.length ≤ 4000) (hA : AR (nd k ts) = true) (h14 : M 218 14 = nI ts.length) (hrw : RW M tb 230 0 ts r) (hcap : nd k ts ∉ tb → tb.length < 7900 ∧ lsum tb tb.length + ts.length ≤ 80000) :
    ∃ (id : Nat) (M' : Mem) (tc : List T), f_X7_makeList (nI (k - 15)) M = some (nI id, M') ∧ MT M' (tb ++ tc) ∧ id < 16 + (tb ++ tc).length ∧ dn (tb ++ tc) id = nd k ts ∧ (tc = [] ∨ (tc = [nd k ts] ∧ nd k ts ∉ tb)) ∧ FMk M M' ∧ M' 230 = M 230 := by
  have hlen := h.2.1
  unfold f_X7_makeList
  rcases mlist_3 h hk hl h14 hrw fuelN 16 (Nat.le_refl _) (by omega) (by unfold fuelN; omega) (fun i _ hi => by omega) with ⟨id, i1, i2, i3⟩ | ⟨hnew, e⟩
  · exact ⟨id, M, [], i3, by rw [List.append_nil]; exact h, by rw [List.append_nil]; exact i1, by rw [List.append_nil]; exact i2, Or.inl rfl, FMk.rfl' M, rfl⟩
  · obtain ⟨hc1, hc2⟩ := hcap hnew
    rw [e, f_X7_makeList_3]
    simp (disch := omega) only [h.2.2.2.1, nlt, Nat.lt_irrefl, if_false, mst_n, Option.bind_some, mwr_off, h14, h.2.2.2.2.1, nI_add]
    generalize hM0 : mwr (mwr (mwr (mwr (mwr M 222 (16 + tb.length) (nI (k - 15))) 223 (16 + tb.length) (nI (lsum tb tb.length))) 224 (16 + tb.length) (nI ts.length)) 225 (16 + tb.length) (nI 1)) 226 (16 + tb.length) (nI (1 + ts.length)) = M0
    have far : ∀ c, c < 222 ∨ 226 < c → M0 c = M c := fun c hc => by rw [← hM0, mwr_ne _ _ _ (by omega), mwr_ne _ _ _ (by omega), mwr_ne _ _ _ (by omega), mwr_ne _ _ _ (by omega), mwr_ne _ _ _ (by omega)]
    have old : ∀ c i, i ≠ 16 + tb.length → M0 c i = M c i := fun c i hi => by
      have st : ∀ (N : Mem) (d : Nat) (v : Int32), mwr N d (16 + tb.length) v c i = N c i := fun N d v => by
        by_cases q : c = d
        · subst q; exact mwr_in _ hi
        · exact mwr_off _ _ _ q
      rw [← hM0, st, st, st, st, st]
    obtain ⟨M', e1, b1, b2, b3, b4, b5, b6, b7, b8⟩ := mlist_91 (M0 := M0) (tb := tb) (q := 16 + tb.length) (ls := lsum tb tb.length) (ts := ts) (r := r) rfl hc1 hc2 hl (by rw [far 218 (by omega)]; exact h.2.2.2.1) (by rw [far 218 (by omega)]; exact h14) (fun j hj => by rw [far 230 (by omega)]; exact hrw j hj) (fun id hid => by rw [old 225 id (by omega), old 226 id (by omega)]; exact ⟨(h.2.2.2.2.2.1 id hid).2.1, (h.2.2.2.2.2.1 id hid).2.2.1⟩) fuelN 0 M0 (Nat.zero_le _) (by unfold fuelN; omega) ⟨fun _ _ _ _ _ => rfl, fun _ _ => rfl, by rw [far 218 (by omega)]; exact h.2.2.2.2.1, fun _ _ => ⟨rfl, rfl⟩, by rw [← hM0, mwr_off _ _ _ (by omega), mwr_at]; rfl, by rw [← hM0, mwr_at]; rfl, fun _ _ => rfl, fun i hi => by omega⟩
    rw [e1]
    rw [List.take_length] at b5 b6
    have hkk : kind (nd k ts) = k := kind_nd _ _
    have hlw : lw (nd k ts) = ts.length := by unfold lw; rw [if_pos (by omega), nkid_nd]
    have hws : wid (nd k ts) = 1 + ts.length + (ts.map wid).sum := by
      rw [wid_nd, if_neg (by omega), if_neg (by omega), if_neg (by omega), sum_add_map, sum_const]
      omega
    refine ⟨16 + tb.length, _, [nd k ts], rfl, MT_snoc h hA (by omega) hnew hc1 (by omega) (mwr_at _ _ _ _) ?_ (fun c c1 c2 i hi => ?_) (fun i hi => ?_) ?_ ?_ ?_ (fun q => by omega) (fun _ => ⟨?_, ?_, r, fun j hj => ?_⟩), by simp, dn_last, Or.inr ⟨rfl, hnew⟩, ⟨fun c hc => ?_, fun i hi => ?_⟩, ?_⟩
    · rw [mwr_in _ (by omega), b3, hlw]
    · rw [mwr_off _ _ _ (by omega)]
      by_cases p5 : c = 225
      · rw [p5, (b4 i (by omega)).1, old 225 i (by omega)]
      · by_cases p6 : c = 226
        · rw [p6, (b4 i (by omega)).2, old 226 i (by omega)]
        · rw [b1 c (by omega) p5 p6 (by omega), old c i (by omega)]
    · rw [mwr_off _ _ _ (by omega), b7 i hi, far 229 (by omega)]
    · rw [mwr_off _ _ _ (by omega), b1 222 (by omega) (by omega) (by omega) (by omega), ← hM0, mwr_off _ _ _ (by omega), mwr_off _ _ _ (by omega), mwr_off _ _ _ (by omega), mwr_off _ _ _ (by omega), mwr_at, hkk]
    · rw [mwr_off _ _ _ (by omega), b5, size_nd]
    · rw [mwr_off _ _ _ (by omega), b6, hws]
    · rw [mwr_off _ _ _ (by omega), b1 223 (by omega) (by omega) (by omega) (by omega), ← hM0, mwr_off _ _ _ (by omega), mwr_off _ _ _ (by omega), mwr_off _ _ _ (by omega), mwr_at]
    · rw [mwr_off _ _ _ (by omega), b1 224 (by omega) (by omega) (by omega) (by omega), ← hM0, mwr_off _ _ _ (by omega), mwr_off _ _ _ (by omega), mwr_at, nkid_nd]
    · rw [nkid_nd] at hj
      obtain ⟨p1, p2, p3⟩ := hrw j hj
      refine ⟨p1, ?_, ?_⟩
      · rw [mwr_off _ _ _ (by omega), b8 j hj]
      · rw [p3]
        simp only [kids_nd]
    · rw [mwr_ne _ _ _ (by omega), b1 c (by omega) (by omega) (by omega) (by omega), far c (by omega)]
    · rw [mwr_in _ (by omega), b2 i (by omega), far 218 (by omega)]
    · rw [mwr_ne _ _ _ (by omega), b1 230 (by omega) (by omega) (by omega) (by omega), far 230 (by omega)]
