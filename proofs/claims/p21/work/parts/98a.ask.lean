/-! THE CLASS'S QUESTIONS, one by one: what is answered -/
def Ans (o : Option Rv) (v : Int32) (a : Abs) : Prop := ∃ M', o = some (v, M') ∧ RelC M' a
theorem Ans.of {M : Mem} {a : Abs} (h : RelC M a) (v : Int32) : Ans (some (v, M)) v a := ⟨M, rfl, h⟩
/-- a wish that is there -/
def tw (s : Sta) (k : Nat) : Option Wsh := match s.2.2[k]? with | some w => if w.1 = true then some w else none | none => none
theorem tw_some {s : Sta} {k : Nat} {w : Wsh} (h : tw s k = some w) : ∃ hk : k < s.2.2.length, s.2.2[k] = w ∧ w.1 = true := by
  unfold tw at h
  split at h
  next v e =>
    split at h
    next hv =>
      cases h
      obtain ⟨hk, e2⟩ := List.getElem?_eq_some_iff.mp e
      exact ⟨hk, e2, hv⟩
    next => cases h
  next => cases h
theorem tw_of {s : Sta} {k : Nat} (hk : k < s.2.2.length) (h : s.2.2[k].1 = true) : tw s k = some s.2.2[k] := by
  unfold tw
  rw [List.getElem?_eq_getElem hk]
  dsimp only
  rw [if_pos h]
theorem tw_ok {s : Sta} {k : Nat} {w : Wsh} (hs : okS s) (h : tw s k = some w) : okW w := by
  obtain ⟨hk, rfl, -⟩ := tw_some h
  exact hs.2.2.2 _ (List.getElem_mem hk)
theorem tw_lt {s : Sta} {k : Nat} {w : Wsh} (hs : okS s) (h : tw s k = some w) : k < 8 := by
  obtain ⟨hk, -, -⟩ := tw_some h
  have := hs.2.2.1
  omega
theorem tw_none {s : Sta} {k : Nat} (h : tw s k = none) : ∀ hk : k < s.2.2.length, s.2.2[k].1 = false := by
  intro hk
  cases e : s.2.2[k].1 with
  | false => rfl
  | true => rw [tw_of hk e] at h; cases h
theorem c_find {M : Mem} {s : Sta} {c k : Nat} {w : Wsh} (hc : isSc c) (hC : RC M c s) (hs : okS s) (h : tw s k = some w) : RCw M (c + 3 + 3 * k) w ∧ f_X4_find c (nI k) M = some (nI (c + 3 + 3 * k), M) := by
  obtain ⟨hk, rfl, hw⟩ := tw_some h
  have h8 := hs.2.2.1
  refine ⟨hC.2.2.2.2 k hk, ?_⟩
  rcases find_ok hc hC hs (nI k) with ⟨j, ⟨e, hj, -⟩, e2⟩ | ⟨hno, -⟩
  · have : k = j := (neq (by omega) (by omega)).mp e
    subst this
    exact e2
  · exact absurd ⟨rfl, hk, hw⟩ (hno k)
theorem c_find0 {M : Mem} {s : Sta} {c k : Nat} (hk9 : k < 1000) (hc : isSc c) (hC : RC M c s) (hs : okS s) (h : tw s k = none) : f_X4_find c (nI k) M = some (nI 0, M) := by
  have h8 := hs.2.2.1
  rcases find_ok hc hC hs (nI k) with ⟨j, ⟨e, hj, hw⟩, -⟩ | ⟨-, e⟩
  · have : k = j := (neq (by omega) (by omega)).mp e
    subst this
    rw [tw_none h hj] at hw
    cases hw
  · exact e
/-- wish(): what it tells -/
def wq (w : Wsh) (q : Nat) : Int32 := if q = 0 then nI w.2.1 else if q = 1 then nI (wP w).length else if q = 2 then nI (pth 0 (wP w) (wP w).length) else if q = 3 then nI (pth 1 (wP w) (wP w).length) else if q = 4 then w.2.2.1 else if q = 5 then w.2.2.2.1 else if q = 6 then nI (wie w) else if q = 7 then nI (ssum (wP w)) else nI w.2.2.2.2.1
theorem c_wish {M : Mem} {a : Abs} {k q : Nat} {w : Wsh} (hA : okA a) (h : RelC M a) (ht : tw a.1 k = some w) (hq : q ≤ 8) : Ans (f_X6_wish (nI k) (nI q) M) (wq w q) a := by
  have hC0 := h
  obtain ⟨cn, cs, ch, tb, hC⟩ := h
  obtain ⟨c1, c4, r1, r0⟩ := hC.now
  have gn := isSc_ge c4
  have h8 := tw_lt hA.1 ht
  have hw := tw_ok hA.1 ht
  obtain ⟨rw1, e⟩ := c_find c4 r1 hA.1 ht
  have ne : ∀ i, i ≠ q → i ≤ 8 → ¬ nI q = nI i := fun i hi hi8 z => hi ((neq (by omega) (by omega)).mp z).symm
  unfold f_X6_wish
  rw [c1, mlS_ok c4, Option.bind_some, e, Option.bind_some]
  dsimp only
  rw [if_neg (ref_ne c4 h8), maW_ok c4 h8]
  rcases (show q = 0 ∨ q = 1 ∨ q = 2 ∨ q = 3 ∨ q = 4 ∨ q = 5 ∨ q = 6 ∨ q = 7 ∨ q = 8 by omega) with rfl | rfl | rfl | rfl | rfl | rfl | rfl | rfl | rfl
  · rw [if_pos rfl, Option.bind_some, rw1.2.1]; exact Ans.of hC0 _
  · rw [if_neg (ne 0 (by omega) (by omega)), if_pos rfl, Option.bind_some, rw1.2.2.1]; exact Ans.of hC0 _
  · rw [if_neg (ne 0 (by omega) (by omega)), if_neg (ne 1 (by omega) (by omega)), if_pos rfl, Option.bind_some, partsThat_ok hw.2.2 rw1.2.2.1 rw1.2.2.2.2.2.2 (by omega), Option.bind_some]; exact Ans.of hC0 _
  · rw [if_neg (ne 0 (by omega) (by omega)), if_neg (ne 1 (by omega) (by omega)), if_neg (ne 2 (by omega) (by omega)), if_pos rfl, Option.bind_some, partsThat_ok hw.2.2 rw1.2.2.1 rw1.2.2.2.2.2.2 (by omega), Option.bind_some]; exact Ans.of hC0 _
  · rw [if_neg (ne 0 (by omega) (by omega)), if_neg (ne 1 (by omega) (by omega)), if_neg (ne 2 (by omega) (by omega)), if_neg (ne 3 (by omega) (by omega)), if_pos rfl, Option.bind_some, rw1.2.2.2.1]; exact Ans.of hC0 _
  · rw [if_neg (ne 0 (by omega) (by omega)), if_neg (ne 1 (by omega) (by omega)), if_neg (ne 2 (by omega) (by omega)), if_neg (ne 3 (by omega) (by omega)), if_neg (ne 4 (by omega) (by omega)), if_pos rfl, Option.bind_some, rw1.2.2.2.2.1]; exact Ans.of hC0 _
  · rw [if_neg (ne 0 (by omega) (by omega)), if_neg (ne 1 (by omega) (by omega)), if_neg (ne 2 (by omega) (by omega)), if_neg (ne 3 (by omega) (by omega)), if_neg (ne 4 (by omega) (by omega)), if_neg (ne 5 (by omega) (by omega)), if_pos rfl, Option.bind_some]
    obtain ⟨M', tb', e1, f1, o1⟩ := verdictIfEnded_ok (by omega) hw r0 rw1
    rw [e1, Option.bind_some]
    exact ⟨M', rfl, cn, cs, ch, tb', hC.fq hA o1 f1⟩
  · rw [if_neg (ne 0 (by omega) (by omega)), if_neg (ne 1 (by omega) (by omega)), if_neg (ne 2 (by omega) (by omega)), if_neg (ne 3 (by omega) (by omega)), if_neg (ne 4 (by omega) (by omega)), if_neg (ne 5 (by omega) (by omega)), if_neg (ne 6 (by omega) (by omega)), if_pos rfl, Option.bind_some, sizeOf_ok hw.2.2 rw1.2.2.1 rw1.2.2.2.2.2.2, Option.bind_some]; exact Ans.of hC0 _
  · rw [if_neg (ne 0 (by omega) (by omega)), if_neg (ne 1 (by omega) (by omega)), if_neg (ne 2 (by omega) (by omega)), if_neg (ne 3 (by omega) (by omega)), if_neg (ne 4 (by omega) (by omega)), if_neg (ne 5 (by omega) (by omega)), if_neg (ne 6 (by omega) (by omega)), if_neg (ne 7 (by omega) (by omega)), if_pos rfl, Option.bind_some, rw1.2.2.2.2.2.1]; exact Ans.of hC0 _
theorem c_wish0 {M : Mem} {a : Abs} {k : Nat} {y : Int32} (hk9 : k < 1000) (hA : okA a) (h : RelC M a) (ht : tw a.1 k = none) : Ans (f_X6_wish (nI k) y M) (-1) a := by
  have hC0 := h
  obtain ⟨cn, cs, ch, tb, hC⟩ := h
  obtain ⟨c1, c4, r1, r0⟩ := hC.now
  unfold f_X6_wish
  rw [c1, mlS_ok c4, Option.bind_some, c_find0 hk9 c4 r1 hA.1 ht, Option.bind_some]
  dsimp only
  rw [if_pos rfl]
  exact Ans.of hC0 _
/-- letter() -/
def ltr (t : T) (i : Nat) : Int32 := if h : i < (txt t).length then nI (txt t)[i] else -5
theorem c_letter {M : Mem} {a : Abs} {k p i : Nat} {w : Wsh} (hA : okA a) (h : RelC M a) (ht : tw a.1 k = some w) (hp : p < (wP w).length) (hi : i < 1000) : Ans (f_X6_letter (nI k) (nI p) (nI i) M) (ltr (wP w)[p] i) a := by
  obtain ⟨cn, cs, ch, tb, hC⟩ := h
  obtain ⟨c1, c4, r1, r0⟩ := hC.now
  have gn := isSc_ge c4
  have h8 := tw_lt hA.1 ht
  have hw := tw_ok hA.1 ht
  have h8p := hw.2.2.2.1
  obtain ⟨rw1, e⟩ := c_find c4 r1 hA.1 ht
  obtain ⟨t1, t2⟩ := hw.2.2.2.2 (wP w)[p] (List.getElem_mem hp)
  obtain ⟨M', e1, s1, l1, o1⟩ := spell_ok (by omega) (show p < 8 by omega) t1 t2 (rw1.2.2.2.2.2.2 p hp)
  unfold f_X6_letter f_X6_letter_28 f_X6_letter_69
  rw [c1, mlS_ok c4, Option.bind_some, e, Option.bind_some]
  dsimp only
  rw [if_neg (ref_ne c4 h8), if_neg (neg_n (show p < 2147483648 by omega)), maW_ok c4 h8, Option.bind_some]
  simp only [rw1.2.2.1]
  rw [if_pos ((nlt (by omega) (by omega)).mpr hp), if_neg (neg_n (show i < 2147483648 by omega)), e1, Option.bind_some]
  dsimp only
  unfold ltr
  by_cases hj : i < (txt (wP w)[p]).length
  · have sj := s1 i hj
    rw [Nat.zero_add] at sj
    rw [if_pos ((nlt (by omega) (by omega)).mpr hj), mrd_n (by omega) (by omega), Option.bind_some, sj, dif_pos hj]
    exact ⟨M', rfl, cn, cs, ch, tb, hC.spell hA o1⟩
  · rw [if_neg (fun q => hj ((nlt (by omega) (by omega)).mp q)), dif_neg hj]
    exact ⟨M', rfl, cn, cs, ch, tb, hC.spell hA o1⟩
/-- part() -/
def pq (t : T) (q : Nat) : Int32 := if q = 0 then nI (size t) else if q = 1 then nI (txt t).length else if q = 2 then nI (sgn t) else bI (tae t)
theorem c_prt {M : Mem} {a : Abs} {k p q : Nat} {w : Wsh} (hA : okA a) (h : RelC M a) (ht : tw a.1 k = some w) (hp : p < (wP w).length) (hq : q ≤ 3) : Ans (f_X6_part (nI k) (nI p) (nI q) M) (pq (wP w)[p] q) a := by
  have hC0 := h
  obtain ⟨cn, cs, ch, tb, hC⟩ := h
  obtain ⟨c1, c4, r1, r0⟩ := hC.now
  have gn := isSc_ge c4
  have h8 := tw_lt hA.1 ht
  have hw := tw_ok hA.1 ht
  have h8p := hw.2.2.2.1
  obtain ⟨rw1, e⟩ := c_find c4 r1 hA.1 ht
  obtain ⟨t1, t2⟩ := hw.2.2.2.2 (wP w)[p] (List.getElem_mem hp)
  have ne : ∀ i, i ≠ q → i ≤ 3 → ¬ nI q = nI i := fun i hi hi8 z => hi ((neq (by omega) (by omega)).mp z).symm
  unfold f_X6_part f_X6_part_28 f_X6_part_118
  rw [c1, mlS_ok c4, Option.bind_some, e, Option.bind_some]
  dsimp only
  rw [if_neg (ref_ne c4 h8), if_neg (neg_n (show p < 2147483648 by omega)), maW_ok c4 h8, Option.bind_some]
  simp only [rw1.2.2.1]
  rw [if_pos ((nlt (by omega) (by omega)).mpr hp)]
  rcases (show q = 0 ∨ q = 1 ∨ q = 2 ∨ q = 3 by omega) with rfl | rfl | rfl | rfl
  · rw [if_pos rfl, mrd_n (by omega) (by omega), Option.bind_some, (rw1.2.2.2.2.2.2 p hp).1]; exact Ans.of hC0 _
  · obtain ⟨M', e1, s1, l1, o1⟩ := spell_ok (by omega) (show p < 8 by omega) t1 t2 (rw1.2.2.2.2.2.2 p hp)
    rw [if_neg (ne 0 (by omega) (by omega)), if_pos rfl, e1, Option.bind_some]
    exact ⟨M', rfl, cn, cs, ch, tb, hC.spell hA o1⟩
  · obtain ⟨ic, M', tc, e1, f1, s1, i1, d1, o1⟩ := loadAlone_ok (M := M) (by omega) (show p < 8 by omega) r0 t1 t2 (rw1.2.2.2.2.2.2 p hp)
    obtain ⟨-, -, -, b6, b7, -⟩ := f1.2.2.2.2.2.1 ic i1
    have hl1 := f1.2.1
    rw [if_neg (ne 0 (by omega) (by omega)), if_neg (ne 1 (by omega) (by omega)), if_pos rfl, e1, Option.bind_some]
    dsimp only
    rw [mrd_n (by omega) (by omega), Option.bind_some, b6, d1]
    exact ⟨M', rfl, cn, cs, ch, tc, hC.fq hA (fun c hc => o1 c (by omega)) f1⟩
  · obtain ⟨ic, M', tc, e1, f1, s1, i1, d1, o1⟩ := loadAlone_ok (M := M) (by omega) (show p < 8 by omega) r0 t1 t2 (rw1.2.2.2.2.2.2 p hp)
    obtain ⟨-, -, -, b6, b7, -⟩ := f1.2.2.2.2.2.1 ic i1
    have hl1 := f1.2.1
    have fin : ∀ v, Ans (some (v, M')) v a := fun v => ⟨M', rfl, cn, cs, ch, tc, hC.fq hA (fun c hc => o1 c (by omega)) f1⟩
    rw [if_neg (ne 0 (by omega) (by omega)), if_neg (ne 1 (by omega) (by omega)), if_neg (ne 2 (by omega) (by omega)), if_pos rfl, e1, Option.bind_some]
    dsimp only
    rw [mrd_n (by omega) (by omega), Option.bind_some, b7, d1]
    show Ans _ (bI (tae (wP w)[p])) a
    cases tae (wP w)[p] with
    | true => rw [bI_t, if_neg (show ¬ nI 1 = nI 0 by decide)]; exact fin _
    | false => rw [bI_f, if_pos rfl]; exact fin _
/-- no such part -/
theorem c_prt0 {M : Mem} {a : Abs} {k p : Nat} {y : Int32} {w : Wsh} (hA : okA a) (h : RelC M a) (ht : tw a.1 k = some w) (hp : (wP w).length ≤ p) (hp2 : p < 1000) : Ans (f_X6_part (nI k) (nI p) y M) (-1) a := by
  have hC0 := h
  obtain ⟨cn, cs, ch, tb, hC⟩ := h
  obtain ⟨c1, c4, r1, r0⟩ := hC.now
  have h8 := tw_lt hA.1 ht
  have hw := tw_ok hA.1 ht
  have h8p := hw.2.2.2.1
  obtain ⟨rw1, e⟩ := c_find c4 r1 hA.1 ht
  unfold f_X6_part f_X6_part_28 f_X6_part_118
  rw [c1, mlS_ok c4, Option.bind_some, e, Option.bind_some]
  dsimp only
  rw [if_neg (ref_ne c4 h8), if_neg (neg_n (show p < 2147483648 by omega)), maW_ok c4 h8, Option.bind_some]
  simp only [rw1.2.2.1]
  rw [if_neg (fun q => by have := (nlt (by omega) (by omega)).mp q; omega)]
  exact Ans.of hC0 _
/-- would() -/
theorem c_would {M : Mem} {a : Abs} {k set : Nat} {w : Wsh} (hA : okA a) (h : RelC M a) (ht : tw a.1 k = some w) (hset : set < 64) (hend : a.1.1 = false) : Ans (f_X6_would (nI k) (nI set) M) (nI (wb w set)) a := by
  obtain ⟨cn, cs, ch, tb, hC⟩ := h
  obtain ⟨c1, c4, r1, r0⟩ := hC.now
  have gn := isSc_ge c4
  have h8 := tw_lt hA.1 ht
  have hw := tw_ok hA.1 ht
  obtain ⟨rw1, e⟩ := c_find c4 r1 hA.1 ht
  obtain ⟨M', tb', e1, f1, o1⟩ := verdictBehind_ok (by omega) hw r0 rw1 hset
  unfold f_X6_would f_X6_would_25
  rw [c1, mlS_ok c4, Option.bind_some, e, Option.bind_some]
  dsimp only
  rw [if_neg (ref_ne c4 h8), if_neg (neg_n (show set < 2147483648 by omega)), if_pos ((nlt (by omega) (by omega)).mpr hset), c1, mlS_ok c4, Option.bind_some]
  simp only [r1.1, hend, bI_f, if_true]
  rw [maW_ok c4 h8, Option.bind_some, e1, Option.bind_some]
  exact ⟨M', rfl, cn, cs, ch, tb', hC.fq hA o1 f1⟩
theorem c_would0 {M : Mem} {a : Abs} {k : Nat} {y : Int32} (hk9 : k < 1000) (hA : okA a) (h : RelC M a) (ht : tw a.1 k = none) : Ans (f_X6_would (nI k) y M) (-1) a := by
  have hC0 := h
  obtain ⟨cn, cs, ch, tb, hC⟩ := h
  obtain ⟨c1, c4, r1, r0⟩ := hC.now
  unfold f_X6_would
  rw [c1, mlS_ok c4, Option.bind_some, c_find0 hk9 c4 r1 hA.1 ht, Option.bind_some]
  dsimp only
  rw [if_pos rfl]
  exact Ans.of hC0 _
/-- bears() -/
def bq (w : Wsh) (q : Nat) : Int32 := if q = 1 ∨ q = 3 then lsF (bcq w q) 64 0 else nI (cF (bcq w q) 64 0)
theorem c_bears {M : Mem} {a : Abs} {k q : Nat} {w : Wsh} (hA : okA a) (h : RelC M a) (ht : tw a.1 k = some w) (hq : q < 4) (hend : a.1.1 = false) : Ans (f_X6_bears (nI k) (nI q) M) (bq w q) a := by
  obtain ⟨cn, cs, ch, tb, hC⟩ := h
  obtain ⟨c1, c4, r1, r0⟩ := hC.now
  have gn := isSc_ge c4
  have h8 := tw_lt hA.1 ht
  have hw := tw_ok hA.1 ht
  obtain ⟨rw1, e⟩ := c_find c4 r1 hA.1 ht
  obtain ⟨M', tb', e1, f1, p1, o1⟩ := findOutcomes_ok (by omega) hw r0 rw1
  have ec := cb_51 hw hq p1 fuelN 0 0 (by omega) (by unfold fuelN; omega) (by omega)
  rw [Nat.zero_add, Nat.sub_zero] at ec
  unfold f_X6_bears f_X6_bears_24
  rw [c1, mlS_ok c4, Option.bind_some, e, Option.bind_some]
  dsimp only
  rw [if_neg (ref_ne c4 h8), if_neg (neg_n (show q < 2147483648 by omega)), if_neg (fun z => by have := (nlt (by omega) (by omega)).mp z; omega), c1, mlS_ok c4, Option.bind_some]
  simp only [r1.1, hend, bI_f, if_true]
  rw [maW_ok c4 h8, Option.bind_some, e1, Option.bind_some]
  dsimp only
  rw [ec]
  exact ⟨M', rfl, cn, cs, ch, tb', hC.keep hA (fun c hc => o1 c (by omega)) (by rw [o1 22 (by omega)]) f1⟩
theorem c_bears0 {M : Mem} {a : Abs} {k : Nat} {y : Int32} (hk9 : k < 1000) (hA : okA a) (h : RelC M a) (ht : tw a.1 k = none) : Ans (f_X6_bears (nI k) y M) (-1) a := by
  have hC0 := h
  obtain ⟨cn, cs, ch, tb, hC⟩ := h
  obtain ⟨c1, c4, r1, r0⟩ := hC.now
  unfold f_X6_bears
  rw [c1, mlS_ok c4, Option.bind_some, c_find0 hk9 c4 r1 hA.1 ht, Option.bind_some]
  dsimp only
  rw [if_pos rfl]
  exact Ans.of hC0 _
/-- open() -/
theorem c_open {M : Mem} {a : Abs} {r : Nat} (hA : okA a) (h : RelC M a) (hr : r < 1000) : ∃ v, Ans (f_X6_open (nI r) M) v a ∧ OpA a.1 (nI r) v := by
  have hC0 := h
  obtain ⟨cn, cs, ch, tb, hC⟩ := h
  obtain ⟨c1, c4, r1, r0⟩ := hC.now
  have h8 := hA.1.2.2.1
  obtain ⟨v, e, hv⟩ := copen_9 c4 c1 r1 hA.1 (nI r) fuelN 0 (by omega) (by unfold fuelN; omega) (fun j hj => by omega)
  refine ⟨v, ?_, hv⟩
  unfold f_X6_open
  rw [if_neg (neg_n (show r < 2147483648 by omega)), e]
  exact Ans.of hC0 _
/-- at() -/
theorem c_at {M : Mem} {a : Abs} {t : Nat} (hA : okA a) (h : RelC M a) (ht : t < 1000) : Ans (f_X6_at (nI t) M) (if h : t < a.1.2.1.length then nI a.1.2.1[t] else -5) a := by
  have hC0 := h
  obtain ⟨cn, cs, ch, tb, hC⟩ := h
  obtain ⟨c1, c4, r1, r0⟩ := hC.now
  have h40 := hA.1.1
  unfold f_X6_at f_X6_at_32
  rw [if_neg (neg_n (show t < 2147483648 by omega)), c1, mlS_ok c4, Option.bind_some, Option.bind_some, r1.2.1]
  by_cases hk : t < a.1.2.1.length
  · rw [if_pos ((nlt (by omega) (by omega)).mpr hk), mrd_n (by omega) (by omega), Option.bind_some, r1.2.2.2.1 t hk, dif_pos hk]
    exact Ans.of hC0 _
  · rw [if_neg (fun q => hk ((nlt (by omega) (by omega)).mp q)), dif_neg hk]
    exact Ans.of hC0 _
/-- count() -/
def cq (a : Abs) (q : Nat) : Int32 := if q = 0 then nI a.1.2.1.length else if q = 1 then bI a.1.1 else if q = 2 then nI (thr a.1) else if q = 3 then nI a.1.2.2.length else if q = 4 then nI (hmv a.1 2 a.1.2.2.length) else if q = 5 then nI (hmv a.1 0 a.1.2.2.length) else nI (hmv a.1 1 a.1.2.2.length)
theorem c_count {M : Mem} {a : Abs} {q : Nat} (hA : okA a) (h : RelC M a) (hq : q ≤ 6) : Ans (f_X6_count (nI q) M) (cq a q) a := by
  have hC0 := h
  obtain ⟨cn, cs, ch, tb, hC⟩ := h
  obtain ⟨c1, c4, r1, r0⟩ := hC.now
  have ne : ∀ i, i ≠ q → i ≤ 8 → ¬ nI q = nI i := fun i hi hi8 z => hi ((neq (by omega) (by omega)).mp z).symm
  unfold f_X6_count f_X6_count_75
  rw [c1, mlS_ok c4]
  rcases (show q = 0 ∨ q = 1 ∨ q = 2 ∨ q = 3 ∨ q = 4 ∨ q = 5 ∨ q = 6 by omega) with rfl | rfl | rfl | rfl | rfl | rfl | rfl
  · rw [if_pos rfl, Option.bind_some, r1.2.1]; exact Ans.of hC0 _
  · rw [if_neg (ne 0 (by omega) (by omega)), if_pos rfl, Option.bind_some, r1.1]
    show Ans _ (bI a.1.1) a
    cases a.1.1 with
    | true => rw [bI_t, if_neg (show ¬ nI 1 = nI 0 by decide)]; exact Ans.of hC0 _
    | false => rw [bI_f, if_pos rfl]; exact Ans.of hC0 _
  · rw [if_neg (ne 0 (by omega) (by omega)), if_neg (ne 1 (by omega) (by omega)), if_pos rfl, Option.bind_some, howManyThere_ok r1 hA.1, Option.bind_some]; exact Ans.of hC0 _
  · rw [if_neg (ne 0 (by omega) (by omega)), if_neg (ne 1 (by omega) (by omega)), if_neg (ne 2 (by omega) (by omega)), if_pos rfl, Option.bind_some, r1.2.2.1]; exact Ans.of hC0 _
  · rw [if_neg (ne 0 (by omega) (by omega)), if_neg (ne 1 (by omega) (by omega)), if_neg (ne 2 (by omega) (by omega)), if_neg (ne 3 (by omega) (by omega)), if_pos rfl, Option.bind_some, howMany_ok r1 hA.1 (by omega), Option.bind_some]; exact Ans.of hC0 _
  · rw [if_neg (ne 0 (by omega) (by omega)), if_neg (ne 1 (by omega) (by omega)), if_neg (ne 2 (by omega) (by omega)), if_neg (ne 3 (by omega) (by omega)), if_neg (ne 4 (by omega) (by omega)), if_pos rfl, Option.bind_some, howMany_ok r1 hA.1 (by omega), Option.bind_some]; exact Ans.of hC0 _
  · rw [if_neg (ne 0 (by omega) (by omega)), if_neg (ne 1 (by omega) (by omega)), if_neg (ne 2 (by omega) (by omega)), if_neg (ne 3 (by omega) (by omega)), if_neg (ne 4 (by omega) (by omega)), if_neg (ne 5 (by omega) (by omega)), if_pos rfl, Option.bind_some, howMany_ok r1 hA.1 (by omega), Option.bind_some]; exact Ans.of hC0 _
