/-! isWish(): what a wish tells of itself -/
def InvW (n : Nat) (w : Wsh) : Prop := w.2.1 = wv (wP w) ∧ w.2.2.2.2.1 ≤ n ∧ ((w.2.2.1 = -5 ∧ w.2.2.2.1 = nI 0) ∨ (w.2.1 < 2 ∧ ∃ t, w.2.2.1 = nI t ∧ w.2.2.2.2.1 ≤ t ∧ t < 40 ∧ (w.2.2.2.1 = nI 0 ∨ w.2.1 = 0)))
def cntT (l : List T) : Nat := (l.map fun t => one (tae t)).sum
theorem cntT_le (l : List T) : cntT l ≤ l.length := by
  induction l with
  | nil => exact Nat.le_refl _
  | cons t l ih =>
    have h1 : ∀ b : Bool, one b ≤ 1 := fun b => by cases b <;> decide
    have := h1 (tae t)
    show one (tae t) + cntT l ≤ l.length + 1
    omega
theorem cntT_all (l : List T) : cntT l = l.length ↔ l.all tae = true := by
  induction l with
  | nil => exact ⟨fun _ => rfl, fun _ => rfl⟩
  | cons t l ih =>
    have hle := cntT_le l
    show one (tae t) + cntT l = l.length + 1 ↔ (tae t && l.all tae) = true
    cases tae t with
    | true =>
      show 1 + cntT l = l.length + 1 ↔ (true && l.all tae) = true
      rw [Bool.true_and, ← ih]
      omega
    | false =>
      show 0 + cntT l = l.length + 1 ↔ (false && l.all tae) = true
      rw [Bool.false_and]
      exact ⟨fun q => by omega, fun q => by cases q⟩
theorem take_cnt {l : List T} {p : Nat} (h : p < l.length) : cntT (l.take (p + 1)) = cntT (l.take p) + one (tae l[p]) := by
  unfold cntT
  rw [List.take_succ_eq_append_getElem h, List.map_append, List.sum_append]
  simp
theorem bI_one (b : Bool) : bI b = nI (one b) := by cases b <;> rfl
theorem iw_127 {K : Int32 → Int32 → Int32 → Int32 → Int32 → Int32 → Int32 → Int32 → Int32 → Mem → Option Rv} {M : Mem} {a b : Abs} {k p : Nat} {w : Wsh} {x2 x3 x4 x8 s0 s1 v : Int32} (hA : okA a) (h : RelC M a) (ht : tw a.1 k = some w) (hp : p < (wP w).length)
    (kk : ∀ M', RelC M' a → Ans (K (nI k) x2 x3 x4 (s1 ||| s0) (nI (ssum ((wP w).take (p + 1)))) (nI (cntT ((wP w).take (p + 1)))) x8 (nI (p + 1)) M') v b) : Ans (f_L_isWish_127 K (nI k) x2 x3 x4 (nI (ssum ((wP w).take p))) (nI (cntT ((wP w).take p))) x8 (nI p) s0 s1 M) v b := by
  unfold f_L_isWish_127
  refine Ans.bind (c_prt hA h ht hp (q := 0) (by omega)) (fun M1 h1 => ?_)
  dsimp only
  refine Ans.bind (c_prt hA h1 ht hp (q := 3) (by omega)) (fun M2 h2 => ?_)
  dsimp only
  rw [show pq (wP w)[p] 0 = nI (size (wP w)[p]) from rfl, show pq (wP w)[p] 3 = bI (tae (wP w)[p]) from rfl, bI_one, nI_add, nI_add, nI_add, ← take_cnt hp]
  have e : ssum ((wP w).take p) + size (wP w)[p] = ssum ((wP w).take (p + 1)) := (take_sum size hp).symm
  rw [e]
  exact kk M2 h2
theorem iw_101 {K : Int32 → Int32 → Int32 → Int32 → Int32 → Int32 → Int32 → Int32 → Int32 → Mem → Option Rv} {M : Mem} {a b : Abs} {k p br fu : Nat} {w : Wsh} {x2 x3 x8 s0 s1 v : Int32} (hA : okA a) (h : RelC M a) (ht : tw a.1 k = some w) (hp : p < (wP w).length) (hs : s1 ||| s0 = nI br)
    (kk : ∀ M', RelC M' a → Ans (K (nI k) x2 x3 (nI br) (nI (fu ||| if kind ((wP w).getD p (lf 2)) = 1 then 2 ^ p else 0)) (nI (ssum ((wP w).take (p + 1)))) (nI (cntT ((wP w).take (p + 1)))) x8 (nI (p + 1)) M') v b) : Ans (f_L_isWish_101 K (nI k) x2 x3 (nI fu) (nI (ssum ((wP w).take p))) (nI (cntT ((wP w).take p))) x8 (nI p) s0 s1 M) v b := by
  have hw := tw_ok hA.1 ht
  have h8 := hw.2.2.2.1
  have t1 := (hw.2.2.2.2 (wP w)[p] (List.getElem_mem hp)).1
  have hfl := fl_rng t1
  unfold f_L_isWish_101
  refine Ans.bind (c_letter hA h ht hp (i := 0) (by omega)) (fun M1 h1 => ?_)
  dsimp only
  rw [ltr_0, hs]
  rw [getD_mem hp] at kk
  simp (disch := omega) only [neq]
  have hk := (fl_kind (t := (wP w)[p])).2.1
  by_cases q : fl (wP w)[p] = 49
  · rw [if_pos (hk.mp q)] at kk
    rw [if_pos q, shl1' (by omega)]
    refine iw_127 hA h1 ht hp (fun M2 h2 => ?_)
    rw [nI_or]
    exact kk M2 h2
  · rw [if_neg (fun z => q (hk.mpr z))] at kk
    rw [if_neg q]
    refine iw_127 hA h1 ht hp (fun M2 h2 => ?_)
    rw [nI_or]
    exact kk M2 h2
theorem iw_58 {a b : Abs} {k : Nat} {w : Wsh} {x2 v : Int32} (hA : okA a) (ht : tw a.1 k = some w) : ∀ (n p : Nat) (M : Mem), p ≤ (wP w).length → (wP w).length - p < n → RelC M a → (∀ M', RelC M' a → Ans (f_L_isWish_162 (nI k) x2 (nI (wP w).length) (nI (pth 0 (wP w) (wP w).length)) (nI (pth 1 (wP w) (wP w).length)) (nI (ssum (wP w))) (nI (cntT (wP w))) (nI 1) M') v b) → Ans (f_L_isWish_58 n (nI k) x2 (nI (wP w).length) (nI (pth 0 (wP w) p)) (nI (pth 1 (wP w) p)) (nI (ssum ((wP w).take p))) (nI (cntT ((wP w).take p))) (nI 1) (nI p) M) v b := by
  have hw := tw_ok hA.1 ht
  have h8 := hw.2.2.2.1
  intro n
  induction n with
  | zero => intro p M _ h; omega
  | succ n ih =>
    intro p M h1 h2 hM kk
    rw [f_L_isWish_58]
    by_cases hp : p < (wP w).length
    · have t1 := (hw.2.2.2.2 (wP w)[p] (List.getElem_mem hp)).1
      have hfl := fl_rng t1
      rw [if_pos ((nlt (by omega) (by omega)).mpr hp), if_neg (show ¬ nI 1 = nI 0 by decide)]
      refine Ans.bind (isPart_ok hA hM ht hp) (fun M1 g1 => ?_)
      dsimp only
      refine Ans.bind (c_letter hA g1 ht hp (i := 0) (by omega)) (fun M2 g2 => ?_)
      dsimp only
      rw [ltr_0]
      simp (disch := omega) only [neq]
      have hk := (fl_kind (t := (wP w)[p])).1
      have nx := fun M' hM' => ih (p + 1) M' (by omega) (by omega) hM' kk
      rw [pth_succ, pth_succ] at nx
      have hkp : (if kind ((wP w).getD p (lf 2)) = 0 then 2 ^ p else 0) = if fl (wP w)[p] = 48 then 2 ^ p else 0 := by
        rw [getD_mem hp]
        by_cases q : fl (wP w)[p] = 48
        · rw [if_pos q, if_pos (hk.mp q)]
        · rw [if_neg q, if_neg (fun z => q (hk.mpr z))]
      rw [hkp] at nx
      by_cases q : fl (wP w)[p] = 48
      · rw [if_pos q] at nx
        rw [if_pos q, shl1' (by omega)]
        exact iw_101 hA g2 ht hp (nI_or _ _) nx
      · rw [if_neg q] at nx
        rw [if_neg q]
        exact iw_101 hA g2 ht hp (nI_or _ _) nx
    · have : p = (wP w).length := by omega
      subst this
      rw [if_neg (fun q => hp ((nlt (by omega) (by omega)).mp q)), List.take_length]
      exact kk M hM
theorem isWish_ok {M : Mem} {a : Abs} {k : Nat} {w : Wsh} (hA : okA a) (h : RelC M a) (ht : tw a.1 k = some w) (hI : InvW a.1.2.1.length w) : Ans (f_L_isWish (nI k) M) (nI 1) a := by
  have hw := tw_ok hA.1 ht
  have h8 := hw.2.2.2.1
  have h1p := hw.2.2.1
  have h40 := hA.1.1
  obtain ⟨iv, ic, id'⟩ := hI
  have hv2 := hw.1
  unfold f_L_isWish
  refine Ans.bind (c_wish hA h ht (q := 0) (by omega)) (fun M1 g1 => ?_)
  dsimp only
  refine Ans.bind (c_wish hA g1 ht (q := 1) (by omega)) (fun M2 g2 => ?_)
  dsimp only
  rw [show wq w 0 = nI w.2.1 from rfl, show wq w 1 = nI (wP w).length from rfl, if_neg (fun q => by have := (nlt (by omega) (by omega)).mp q; omega), if_neg (fun q => by have := (nlt (by omega) (by omega)).mp q; omega)]
  refine Ans.bind (c_prt0 hA g2 ht (p := (wP w).length) (Nat.le_refl _) (by omega)) (fun M3 g3 => ?_)
  dsimp only
  rw [if_pos rfl]
  unfold f_L_isWish_53
  refine iw_58 hA ht fuelN 0 M3 (Nat.zero_le _) (by unfold fuelN; omega) g3 (fun M4 g4 => ?_)
  have p0 := pth_lt' (i := 0) (l := wP w) h8
  have p1 := pth_lt' (i := 1) (l := wP w) h8
  obtain ⟨w1, w2⟩ := pow8 h8
  unfold f_L_isWish_162
  rw [if_neg (show ¬ nI 1 = nI 0 by decide)]
  refine Ans.bind (c_wish hA g4 ht (q := 2) (by omega)) (fun M5 g5 => ?_)
  dsimp only
  rw [show wq w 2 = nI (pth 0 (wP w) (wP w).length) from rfl, if_pos rfl]
  refine Ans.bind (c_wish hA g5 ht (q := 3) (by omega)) (fun M6 g6 => ?_)
  dsimp only
  rw [show wq w 3 = nI (pth 1 (wP w) (wP w).length) from rfl, if_pos rfl]
  refine Ans.bind (c_wish hA g6 ht (q := 7) (by omega)) (fun M7 g7 => ?_)
  dsimp only
  rw [show wq w 7 = nI (ssum (wP w)) from rfl, if_pos rfl]
  have e206 : f_L_isWish_206 (nI k) (nI w.2.1) (nI (wP w).length) (nI (pth 0 (wP w) (wP w).length)) (nI (pth 1 (wP w) (wP w).length)) (nI (cntT (wP w))) (nI 1) M7 = f_L_isWish_238 (nI k) (nI w.2.1) (nI (wP w).length) (nI (cntT (wP w))) (nI w.2.1) (nI w.2.1) M7 := by
    unfold f_L_isWish_206
    have e2 : nI 1 <<< (nI (wP w).length &&& nI 31) - nI 1 = nI (2 ^ (wP w).length - 1) := by
      rw [shl1 (wP w).length (by omega)]
      exact nsub w2
    rw [if_neg (show ¬ nI 1 = nI 0 by decide), e2]
    simp (disch := omega) only [neq]
    have ev : w.2.1 = if ¬ pth 0 (wP w) (wP w).length = 0 then 0 else if pth 1 (wP w) (wP w).length = 2 ^ (wP w).length - 1 then 1 else 2 := by
      rw [iv]
      unfold wv
      simp only [any_pth, all_pth]
    by_cases q0 : pth 0 (wP w) (wP w).length = 0
    · rw [if_neg (fun z => z q0)] at ev
      rw [if_pos q0]
      by_cases q1 : pth 1 (wP w) (wP w).length = 2 ^ (wP w).length - 1
      · rw [if_pos q1] at ev
        rw [if_pos q1, ev]
      · rw [if_neg q1] at ev
        rw [if_neg q1, ev]
    · rw [if_pos q0] at ev
      rw [if_neg q0, ev]
  rw [e206]
  unfold f_L_isWish_238
  rw [if_pos rfl]
  refine Ans.bind (c_wish hA g7 ht (q := 6) (by omega)) (fun M8 g8 => ?_)
  dsimp only
  rw [show wq w 6 = nI (wie w) from rfl]
  have hct := cntT_le (wP w)
  have hca := cntT_all (wP w)
  have e268 : (if nI w.2.1 < nI 2 then f_L_isWish_268 (nI k) (nI w.2.1) (nI w.2.1) (nI (wie w)) M8 else if nI (cntT (wP w)) = nI (wP w).length then f_L_isWish_268 (nI k) (nI w.2.1) (nI 1) (nI (wie w)) M8 else f_L_isWish_268 (nI k) (nI w.2.1) (nI 0) (nI (wie w)) M8) = f_L_isWish_276 (nI k) (nI w.2.1) (nI 1) M8 := by
    unfold f_L_isWish_268 wie
    simp (disch := omega) only [nlt, neq]
    by_cases q : w.2.1 < 2
    · rw [if_pos q, if_neg (show ¬ w.2.1 = 2 by omega), if_pos rfl]
    · rw [if_neg q, if_pos (show w.2.1 = 2 by omega)]
      by_cases q2 : cntT (wP w) = (wP w).length
      · rw [if_pos q2, hca.mp q2]
        exact if_pos rfl
      · rw [if_neg q2]
        have : (wP w).all tae = false := by
          cases z : (wP w).all tae with
          | false => rfl
          | true => exact absurd (hca.mpr z) q2
        rw [this]
        exact if_pos rfl
  rw [e268]
  have e315 : ∀ M', RelC M' a → Ans (f_L_isWish_315 (nI k) (nI w.2.1) M') (nI 1) a := fun M' g => by
    unfold f_L_isWish_315 f_L_isWish_337 f_L_isWish_341 f_L_isWish_342
    refine Ans.bind (c_wish hA g ht (q := 5) (by omega)) (fun N1 k1 => ?_)
    dsimp only
    rw [show wq w 5 = w.2.2.2.1 from rfl]
    by_cases z : w.2.2.2.1 = nI 0
    · rw [if_pos z]; exact Ans.zt k1
    · rw [if_neg z]
      rcases id' with ⟨-, d2⟩ | ⟨d1, t, d2, d3, d4, d5⟩
      · exact absurd d2 z
      · rcases d5 with d5 | d5
        · exact absurd d5 z
        · rw [d5, if_pos rfl]
          refine Ans.bind (c_wish hA k1 ht (q := 4) (by omega)) (fun N2 k2 => ?_)
          dsimp only
          rw [show wq w 4 = w.2.2.1 from rfl, d2, if_neg (neg_n (show t < 2147483648 by omega))]
          exact Ans.zt k2
  unfold f_L_isWish_276
  rw [if_neg (show ¬ nI 1 = nI 0 by decide)]
  refine Ans.bind (c_wish hA g8 ht (q := 4) (by omega)) (fun M9 g9 => ?_)
  dsimp only
  rw [show wq w 4 = w.2.2.1 from rfl]
  by_cases z : w.2.2.1 = -5
  · rw [if_pos z]; exact e315 M9 g9
  · rw [if_neg z]
    rcases id' with ⟨d1, -⟩ | ⟨d1, t, d2, d3, d4, d5⟩
    · exact absurd d1 z
    · rw [if_pos ((nlt (by omega) (by omega)).mpr d1)]
      refine Ans.bind (c_wish hA g9 ht (q := 4) (by omega)) (fun N1 k1 => ?_)
      dsimp only
      refine Ans.bind (c_wish hA k1 ht (q := 8) (by omega)) (fun N2 k2 => ?_)
      dsimp only
      rw [show wq w 4 = w.2.2.1 from rfl, show wq w 8 = nI w.2.2.2.2.1 from rfl, d2, if_neg (fun q => by have := (nlt (by omega) (by omega)).mp q; omega)]
      exact e315 N2 k2
