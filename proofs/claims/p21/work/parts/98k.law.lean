/-! law(): the whole run -/
def Dn (o : Option Rv) : Prop := ∃ r, o = some r
theorem Dn.bind {o : Option Rv} {F : Rv → Option Rv} {v : Int32} {a : Abs} (h : Ans o v a) (k : ∀ M', RelC M' a → Dn (F (v, M'))) : Dn (o.bind F) := by
  obtain ⟨M', e, h2⟩ := h
  rw [e, Option.bind_some]
  exact k M' h2
theorem Dn.bindE {o : Option Rv} {F : Rv → Option Rv} {v : Int32} {P : Abs → Prop} (h : AnsE o v P) (k : ∀ a M', P a → RelC M' a → Dn (F (v, M'))) : Dn (o.bind F) := by
  obtain ⟨a, hP, M', e, h2⟩ := h
  rw [e, Option.bind_some]
  exact k a M' hP h2
theorem cell_ok {x : Scr} {k : Nat} (M : Mem) (hx : x.1 ≤ 260) (hk : k < 1000) : ∃ c, c < 2147483648 ∧ f_L_cell x (nI k) M = some (nI c, M) := by
  have fin : ∀ v : Int32, ∃ c, c < 2147483648 ∧ f_L_cell_20 v M = some (nI c, M) := fun v => by
    unfold f_L_cell_20
    obtain ⟨j, h1, h2⟩ := pk_andE v (m := nI 2147483647) 31 (by decide)
    rw [h2]
    exact ⟨j, h1, rfl⟩
  unfold f_L_cell
  by_cases q : k < x.1
  · rw [if_pos ((nlt (by omega) (by omega)).mpr q), mrs_n q (by omega), Option.bind_some]
    exact fin _
  · rw [if_neg (fun z => q ((nlt (by omega) (by omega)).mp z))]
    exact fin _
/-- the end -/
theorem wv_enP {w : Wsh} (hw : okW w) : wv (enP w) = one ((wP w).all tae) := by
  have h1 : 1 ≤ (enP w).length := by unfold enP; rw [List.length_map]; exact hw.2.2.1
  cases q : (wP w).all tae with
  | true =>
    refine (wv_1 h1).mpr (fun x hx => ?_)
    obtain ⟨t, ht, rfl⟩ := List.mem_map.mp hx
    have := List.all_eq_true.mp q t ht
    unfold enT
    rw [this]
    rfl
  | false =>
    refine wv_0.mpr ?_
    obtain ⟨t, ht, e⟩ := List.all_eq_false.mp q
    refine ⟨enT t, List.mem_map_of_mem ht, ?_⟩
    have : tae t = false := by simpa using e
    unfold enT
    rw [this]
    rfl
theorem enS_2 (s : Sta) : (enS s s.2.2.length).2.2 = s.2.2.map enW := pW_all enW s.2.2
theorem enW_InvW {n : Nat} {w : Wsh} (h : InvW n w) : InvW n (enW w) := by
  obtain ⟨h1, h2, h3⟩ := h
  unfold enW
  split
  next q =>
    unfold enB at q
    simp only [Bool.and_eq_true, beq_iff_eq] at q
    refine ⟨rfl, h2, Or.inl ?_⟩
    rcases h3 with h3 | ⟨h3, -⟩
    · exact h3
    · omega
  next => exact ⟨h1, h2, h3⟩
theorem enS_Inv {a : Abs} (hI : Inv a) : ∀ w ∈ (enS a.1 a.1.2.2.length).2.2, InvW (enS a.1 a.1.2.2.length).2.1.length w := by
  intro w hw
  rw [enS_2] at hw
  obtain ⟨x, hx, rfl⟩ := List.mem_map.mp hw
  exact enW_InvW (hI.2 x hx)
theorem enS_open {s : Sta} (hs : okS s) : ∀ k, hmv (enS s s.2.2.length) 2 k = 0 := by
  intro k
  induction k with
  | zero => rfl
  | succ k ih =>
    rw [hmv_succ, ih, enS_2, List.getElem?_map]
    cases e : s.2.2[k]? with
    | none => rfl
    | some w =>
      show 0 + one ((enW w).1 && (enW w).2.1 == 2) = 0
      have hw := hs.2.2.2 w (List.mem_of_getElem? e)
      unfold enW
      cases q : enB w with
      | true =>
        rw [if_pos rfl]
        show 0 + one (w.1 && wv (enP w) == 2) = 0
        have : (wv (enP w) == 2) = false := by
          rw [wv_enP hw]
          cases (wP w).all tae <;> rfl
        rw [this, Bool.and_false]
        rfl
      | false =>
        rw [if_neg (by decide)]
        unfold enB at q
        rw [q]
        rfl
theorem enN_tw {s : Sta} {k : Nat} {w : Wsh} (h : tw s k = some w) : enN s (k + 1) = enN s k + if w.2.1 = 2 then wv (enP w) else 0 := by
  obtain ⟨hk, rfl, hw⟩ := tw_some h
  rw [enN_succ hk]
  unfold enB
  rw [hw, Bool.true_and]
  by_cases q : s.2.2[k].2.1 = 2
  · rw [if_pos q, if_pos (by simpa using q)]
  · rw [if_neg q, if_neg (by simpa using q)]
theorem enN_no {s : Sta} {k : Nat} (h : tw s k = none) : enN s (k + 1) = enN s k := by
  rcases Nat.lt_or_ge k s.2.2.length with hk | hk
  · rw [enN_succ hk]
    unfold enB
    rw [tw_none h hk, Bool.false_and, if_neg (by decide)]
    rfl
  · have : enN s (k + 1) = enN s k + (match s.2.2[k]? with | some w => if enB w = true then wv (enP w) else 0 | none => 0) := rfl
    rw [this, List.getElem?_eq_none hk]
    rfl
theorem enN_le (s : Sta) : ∀ k, enN s k ≤ 2 * k := by
  intro k
  induction k with
  | zero => exact Nat.le_refl _
  | succ k ih =>
    have : enN s (k + 1) = enN s k + (match s.2.2[k]? with | some w => if enB w = true then wv (enP w) else 0 | none => 0) := rfl
    rw [this]
    have h2 : (match s.2.2[k]? with | some w => if enB w = true then wv (enP w) else 0 | none => 0) ≤ 2 := by
      split
      next w _ =>
        have := wv_le (enP w)
        split <;> omega
      next => omega
    omega
theorem enN_8 {s : Sta} (hs : okS s) : enN s 8 = enN s s.2.2.length := by
  have h2 : ∀ n, s.2.2.length ≤ n → enN s n = enN s s.2.2.length := by
    intro n
    induction n with
    | zero => intro q; rw [show s.2.2.length = 0 by omega]
    | succ n ih =>
      intro q
      by_cases p : s.2.2.length = n + 1
      · rw [p]
      · have e := ih (by omega)
        have : tw s n = none := by
          unfold tw
          rw [List.getElem?_eq_none (by omega)]
        rw [enN_no this, e]
  exact h2 8 hs.2.2.1
/-- what holds between the acts -/
def Std (a : Abs) (n : Nat) : Prop := Inv a ∧ a.1.1 = false ∧ a.1.2.1.length ≤ n ∧ flt a.2.2.2 true 0 0 = none
theorem lw_465 {M : Mem} : Dn (f_L_law_465 (nI 1) M) := by
  unfold f_L_law_465 mrl
  rw [if_pos rfl]
  exact ⟨_, rfl⟩
/-- from the last events on -/
theorem lw_fin {a : Abs} {n : Nat} (hS : Std a n) (fuel : Nat) {M : Mem} (h : RelC M a) : Dn (f_L_law_291 (fuel + 1) (nI 1) (nI a.1.2.1.length) (nI (hmv a.1 2 a.1.2.2.length)) (nI (enN a.1 8)) (nI 8) M) := by
  obtain ⟨hI, hend, hn, hf⟩ := hS
  have hA := hI.1
  have h40 := hA.1.1
  have h8 := hA.1.2.2.1
  have hm := hmv_le a.1 2 a.1.2.2.length
  rw [f_L_law_291, if_neg (show ¬ nI 8 < nI 8 by decide), if_neg (show ¬ nI 1 = nI 0 by decide)]
  refine Dn.bind (c_keep hA h) (fun M1 g1 => ?_)
  dsimp only
  rw [if_pos rfl]
  have A1 : okA (a.1, a.2.1, some a.1, a.2.2.2) := ⟨hA.1, hA.2.1, hA.2.2.1, fun s hs => by cases hs; exact hA.1, hA.2.2.2.2⟩
  refine Dn.bind (c_end A1 g1 hend) (fun M2 g2 => ?_)
  dsimp only
  rw [enN_8 hA.1, if_pos rfl]
  have oke := enS_ok hA.1 a.1.2.2.length
  have A2 : okA (enS a.1 a.1.2.2.length, recd a.2.1 a.1, some a.1, a.2.2.2) := okA_act A1 oke
  have I2 : Inv (enS a.1 a.1.2.2.length, recd a.2.1 a.1, some a.1, a.2.2.2) := ⟨A2, enS_Inv hI⟩
  refine Dn.bind (c_count A2 g2 (q := 4) (by omega)) (fun M3 g3 => ?_)
  dsimp only
  have e4 : cq (enS a.1 a.1.2.2.length, recd a.2.1 a.1, some a.1, a.2.2.2) 4 = nI 0 := by
    show nI (hmv (enS a.1 a.1.2.2.length) 2 (enS a.1 a.1.2.2.length).2.2.length) = nI 0
    rw [enS_open hA.1]
  rw [e4, if_pos rfl]
  refine Dn.bind (isAll_ok I2 g3) (fun M4 g4 => ?_)
  dsimp only
  rw [if_neg (show ¬ nI 1 = nI 0 by decide)]
  refine Dn.bind (c_event0 (set := 0) g4 (by omega) rfl) (fun M5 g5 => ?_)
  dsimp only
  rw [if_pos rfl]
  refine Dn.bind (c_end0 g5 rfl) (fun M6 g6 => ?_)
  dsimp only
  rw [if_pos rfl]
  refine Dn.bind (c_addE A2 g6 hf rfl) (fun M7 g7 => ?_)
  dsimp only
  rw [if_pos rfl]
  unfold f_L_law_406
  rw [if_neg (show ¬ nI 1 = nI 0 by decide)]
  refine Dn.bind (c_restore A2 g7 (s := a.1) rfl) (fun M8 g8 => ?_)
  dsimp only
  rw [if_pos rfl]
  have A3 : okA (a.1, recd (recd a.2.1 a.1) (enS a.1 a.1.2.2.length), some a.1, a.2.2.2) := okA_act A2 hA.1
  refine Dn.bind (c_count A3 g8 (q := 4) (by omega)) (fun M9 g9 => ?_)
  dsimp only
  rw [if_pos (show cq (a.1, recd (recd a.2.1 a.1) (enS a.1 a.1.2.2.length), some a.1, a.2.2.2) 4 = nI (hmv a.1 2 a.1.2.2.length) from rfl)]
  refine Dn.bind (c_count A3 g9 (q := 1) (by omega)) (fun N1 k1 => ?_)
  dsimp only
  have e1 : cq (a.1, recd (recd a.2.1 a.1) (enS a.1 a.1.2.2.length), some a.1, a.2.2.2) 1 = nI 0 := by
    show bI a.1.1 = nI 0
    rw [hend]; rfl
  rw [e1, if_pos rfl]
  have hrec : recd (recd a.2.1 a.1) (enS a.1 a.1.2.2.length) = (if (recd a.2.1 a.1).length = 4 then (recd a.2.1 a.1).tail else recd a.2.1 a.1) ++ [enS a.1 a.1.2.2.length] := rfl
  generalize (if (recd a.2.1 a.1).length = 4 then (recd a.2.1 a.1).tail else recd a.2.1 a.1) = l at hrec
  have hl4 := A3.2.1
  have hll : l.length ≤ 4 := by
    have : (recd (recd a.2.1 a.1) (enS a.1 a.1.2.2.length)).length ≤ 4 := hl4
    rw [hrec, List.length_append] at this
    omega
  refine Dn.bind (c_undo A3 k1 (l := l) (s0 := enS a.1 a.1.2.2.length) hrec) (fun N2 k2 => ?_)
  dsimp only
  rw [if_neg (neg_n (show l.length < 2147483648 by omega))]
  have A4 : okA (enS a.1 a.1.2.2.length, l, some a.1, a.2.2.2) := ⟨oke, hll, fun s hs => A3.2.2.1 s (by
    show s ∈ recd (recd a.2.1 a.1) (enS a.1 a.1.2.2.length)
    rw [hrec]; exact List.mem_append.mpr (Or.inl hs)), A3.2.2.2⟩
  have I4 : Inv (enS a.1 a.1.2.2.length, l, some a.1, a.2.2.2) := ⟨A4, enS_Inv hI⟩
  refine Dn.bind (c_count A4 k2 (q := 1) (by omega)) (fun N3 k3 => ?_)
  dsimp only
  rw [if_pos (show cq (enS a.1 a.1.2.2.length, l, some a.1, a.2.2.2) 1 = nI 1 from rfl)]
  refine Dn.bind (isAll_ok I4 k3) (fun N4 k4 => ?_)
  dsimp only
  rw [if_neg (show ¬ nI 1 = nI 0 by decide)]
  exact lw_465
/-- the wishes that would be fulfilled -/
theorem lw_291 {a : Abs} {n : Nat} (hS : Std a n) : ∀ (fuel k : Nat) (M : Mem), k ≤ 8 → 8 - k < fuel → RelC M a → Dn (f_L_law_291 fuel (nI 1) (nI a.1.2.1.length) (nI (hmv a.1 2 a.1.2.2.length)) (nI (enN a.1 k)) (nI k) M) := by
  have hA := hS.1.1
  have h8 := hA.1.2.2.1
  intro fuel
  induction fuel with
  | zero => intro k M _ h; omega
  | succ fuel ih =>
    intro k M h1 h2 hM
    by_cases hk : k < 8
    · rw [f_L_law_291, if_pos ((nlt (by omega) (by omega)).mpr hk)]
      have nx := fun M' hM' => ih (k + 1) M' (by omega) (by omega) hM'
      cases ht : tw a.1 k with
      | none =>
        rw [enN_no ht] at nx
        refine Dn.bind (c_wish0 (y := nI 0) (by omega) hA hM ht) (fun M1 g1 => ?_)
        dsimp only
        rw [if_neg (show ¬ (-1 : Int32) = nI 2 by decide)]
        unfold f_L_law_327 f_L_law_328
        rw [nI_add, nI_add]
        exact nx M1 g1
      | some w =>
        have hw := tw_ok hA.1 ht
        have hv := hw.1
        have hle := enN_le a.1 k
        rw [enN_tw ht] at nx
        refine Dn.bind (c_wish hA hM ht (q := 0) (by omega)) (fun M1 g1 => ?_)
        dsimp only
        rw [show wq w 0 = nI w.2.1 from rfl]
        by_cases q : w.2.1 = 2
        · rw [if_pos q, wv_enP hw] at nx
          rw [if_pos (by rw [q])]
          refine Dn.bind (c_wish hA g1 ht (q := 6) (by omega)) (fun M2 g2 => ?_)
          dsimp only
          have e6 : wq w 6 = nI (one ((wP w).all tae)) := by
            show nI (wie w) = _
            unfold wie
            rw [if_pos q]
          rw [e6]
          unfold f_L_law_327 f_L_law_328
          rw [nI_add]
          cases z : (wP w).all tae with
          | true =>
            rw [z] at nx
            rw [if_pos (show nI (one true) = nI 1 from rfl), nI_add]
            exact nx M2 g2
          | false =>
            rw [z] at nx
            rw [if_neg (show ¬ nI (one false) = nI 1 by decide), nI_add, nI_add]
            exact nx M2 g2
        · rw [if_neg q] at nx
          rw [if_neg (fun z => q ((neq (by omega) (by omega)).mp z))]
          unfold f_L_law_327 f_L_law_328
          rw [nI_add, nI_add]
          exact nx M1 g1
    · have : k = 8 := by omega
      subst this
      exact lw_fin hS fuel hM
theorem lw_272 {a : Abs} {n : Nat} {M : Mem} (hS : Std a n) (h : RelC M a) : Dn (f_L_law_272 (nI 1) M) := by
  have hA := hS.1.1
  unfold f_L_law_272
  refine Dn.bind (c_count hA h (q := 0) (by omega)) (fun M1 g1 => ?_)
  dsimp only
  refine Dn.bind (c_count hA g1 (q := 4) (by omega)) (fun M2 g2 => ?_)
  dsimp only
  exact lw_291 hS fuelN 0 M2 (Nat.zero_le _) (by unfold fuelN; omega) g2
theorem Nx_Std {a b : Abs} {n : Nat} (hS : Std a n) (h : Nx a b) : Std b (n + 1) := by
  obtain ⟨h1, h2, h3, h4⟩ := h
  refine ⟨h1, by rw [h2]; exact hS.2.1, by have := hS.2.2.1; omega, ?_⟩
  rw [h3]
  exact hS.2.2.2
/-- the nine acts -/
theorem lw_124 {x : Scr} (hx : x.1 ≤ 260) : ∀ (fuel k : Nat) (a : Abs) (M : Mem), k ≤ 9 → 9 - k < fuel → Std a k → RelC M a → Dn (f_L_law_124 fuel x (nI 1) (nI k) M) := by
  intro fuel
  induction fuel with
  | zero => intro k a M _ h; omega
  | succ fuel ih =>
    intro k a M h1 h2 hS hM
    have hI := hS.1
    have hA := hI.1
    have hend := hS.2.1
    have hn := hS.2.2.1
    rw [f_L_law_124]
    by_cases hk : k < 9
    · rw [if_pos ((nlt (by omega) (by omega)).mpr hk), if_neg (show ¬ nI 1 = nI 0 by decide), nI_add]
      obtain ⟨c, hc, ec⟩ := cell_ok (k := 4 + k) M hx (by omega)
      rw [ec, Option.bind_some]
      dsimp only
      have nx : ∀ (b : Abs) {M' : Mem}, Std b (k + 1) → RelC M' b → Dn (f_L_law_248 (f_L_law_124 fuel) x (nI k) (nI 1) M') := fun b M' hb g => by
        unfold f_L_law_248 f_L_law_265
        rw [if_neg (show ¬ nI 1 = nI 0 by decide)]
        refine Dn.bind (isAll_ok hb.1 g) (fun M1 g1 => ?_)
        dsimp only
        rw [if_neg (show ¬ nI 1 = nI 0 by decide), nI_add]
        exact ih (k + 1) b M1 (by omega) (by omega) hb g1
      have same : Std a (k + 1) := ⟨hI, hend, by omega, hS.2.2.2⟩
      rw [rmN hc (by omega) (by omega), rmN hc (by omega) (by omega), shN hc (nI 3 &&& nI 31) 3 (by decide), shN hc (nI 8 &&& nI 31) 8 (by decide), rmN (by omega) (by omega) (by omega), rmN (by omega) (by omega) (by omega)]
      have hwl : c / 2 ^ 8 % 4 < 4 := Nat.mod_lt _ (by omega)
      have hsl : c / 2 ^ 3 % 64 < 64 := Nat.mod_lt _ (by omega)
      generalize c / 2 ^ 8 % 4 = wi at *
      simp (disch := omega) only [neq]
      by_cases q0 : c % 7 = 0
      · rw [if_pos q0]
        refine Dn.bindE (joins_ok (by omega) hI hM hend) (fun b M1 hb g1 => ?_)
        dsimp only
        exact nx b (Nx_Std hS hb) g1
      rw [if_neg q0]
      by_cases q1 : c % 7 = 1
      · rw [if_pos q1]
        unfold f_L_law_199
        cases ht : tw a.1 wi with
        | some w =>
          refine Dn.bind (isBorne_ok hA hM ht hend) (fun M1 g1 => ?_)
          dsimp only
          rw [if_neg (show ¬ nI 1 = nI 0 by decide)]
          exact nx a same g1
        | none =>
          obtain ⟨v, hv⟩ := isBorne_no (by omega) hA hM ht
          refine Dn.bind hv (fun M1 g1 => ?_)
          dsimp only
          by_cases z : v = nI 0
          · rw [if_pos z]
            refine Dn.bind (c_wish0 (y := nI 0) (by omega) hA g1 ht) (fun M2 g2 => ?_)
            dsimp only
            rw [if_pos (show (-1 : Int32) < nI 0 by decide)]
            exact nx a same g2
          · rw [if_neg z]
            exact nx a same g1
      rw [if_neg q1]
      by_cases q2 : c % 23 = 2
      · rw [if_pos q2]
        cases ht : tw a.1 wi with
        | some w =>
          obtain ⟨r1, r2⟩ := c_remove hA hM ht
          refine Dn.bind r1 (fun M1 g1 => ?_)
          dsimp only
          have ht2 : thr (setW a.1 wi (false, w.2)) < 1000 := by
            have h0 := hmv_le (setW a.1 wi (false, w.2)) 0 (setW a.1 wi (false, w.2)).2.2.length
            have h1 := hmv_le (setW a.1 wi (false, w.2)) 1 (setW a.1 wi (false, w.2)).2.2.length
            have h2 := hmv_le (setW a.1 wi (false, w.2)) 2 (setW a.1 wi (false, w.2)).2.2.length
            have h3 := r2.2.2.1
            unfold thr
            omega
          have hne : ¬ nI (thr (setW a.1 wi (false, w.2))) = -2 := fun e => by
            have n2 : (-2 : Int32) < nI 0 := by decide
            rw [← e] at n2
            exact neg_n (by omega) n2
          rw [if_neg hne]
          refine nx _ ⟨⟨okA_act hA r2, fun y hy => ?_⟩, hend, by show a.1.2.1.length ≤ k + 1; omega, hS.2.2.2⟩ g1
          rcases List.mem_or_eq_of_mem_set hy with hy | hy
          · exact hI.2 y hy
          · rw [hy]
            exact hI.2 w (tw_mem ht)
        | none =>
          refine Dn.bind (c_remove0 (by omega) hA hM ht) (fun M1 g1 => ?_)
          dsimp only
          rw [if_neg (show ¬ (-1 : Int32) = -2 by decide)]
          exact nx a same g1
      rw [if_neg q2]
      refine Dn.bindE (happens_ok' (by omega) hI hM hsl hend (by omega)) (fun b M1 hb g1 => ?_)
      dsimp only
      exact nx b (Nx_Std hS hb) g1
    · rw [if_neg (fun z => hk ((nlt (by omega) (by omega)).mp z))]
      exact lw_272 hS hM
/-- the four wishes -/
def Pre (a : Abs) (k : Nat) : Prop := Inv a ∧ a.1.1 = false ∧ a.1.2.1 = [] ∧ a.1.2.2.length = k ∧ (0 < k → flt a.2.2.2 true 0 0 = none)
theorem lw_43 {x : Scr} (hx : x.1 ≤ 260) : ∀ (fuel k : Nat) (a : Abs) (M : Mem), k ≤ 4 → 4 - k < fuel → Pre a k → RelC M a → Dn (f_L_law_43 fuel x (nI 1) (nI k) M) := by
  intro fuel
  induction fuel with
  | zero => intro k a M _ h; omega
  | succ fuel ih =>
    intro k a M h1 h2 hP hM
    obtain ⟨hI, hend, hev, hwn, hf⟩ := hP
    have hA := hI.1
    rw [f_L_law_43]
    by_cases hk : k < 4
    · rw [if_pos ((nlt (by omega) (by omega)).mpr hk), if_neg (show ¬ nI 1 = nI 0 by decide)]
      obtain ⟨c, hc, ec⟩ := cell_ok (k := k) M hx (by omega)
      rw [ec, Option.bind_some]
      dsimp only
      obtain ⟨cs, t1, t2, t3, t4⟩ := types_ok hc hA hM
      refine Dn.bind t1 (fun M1 g1 => ?_)
      dsimp only
      rw [if_neg (show ¬ nI 1 = nI 0 by decide)]
      have hfl := Gd_end t3
      have It : Inv (txA a cs) := ⟨t2, hI.2⟩
      have hl8 : (txA a cs).1.2.2.length < 8 := by
        show a.1.2.2.length < 8
        omega
      obtain ⟨a1, a2, a3⟩ := c_add t2 g1 hfl hend hl8 (rdT_8 t3.2)
      have Ib := addS_Inv It hl8 a2 a3
      have htn := addS_tw (txA a cs).1 (rdT cs)
      have ewn : (txA a cs).1.2.2.length = k := hwn
      refine Dn.bind a1 (fun M2 g2 => ?_)
      dsimp only
      rw [ewn] at htn ⊢
      rw [if_pos rfl]
      refine Dn.bind (c_wish Ib.1 g2 htn (q := 4) (by omega)) (fun M3 g3 => ?_)
      dsimp only
      rw [if_pos (show wq (newW (txA a cs).1 (rdT cs)) 4 = -5 from rfl)]
      refine Dn.bind (c_wish Ib.1 g3 htn (q := 8) (by omega)) (fun M4 g4 => ?_)
      dsimp only
      have e8 : wq (newW (txA a cs).1 (rdT cs)) 8 = nI 0 := by
        show nI a.1.2.1.length = nI 0
        rw [hev]; rfl
      rw [e8, if_pos rfl]
      unfold f_L_law_98
      rw [nI_add]
      refine ih (k + 1) _ M4 (by omega) (by omega) ⟨Ib, hend, hev, ?_, fun _ => hfl⟩ g4
      show (a.1.2.2 ++ [newW (txA a cs).1 (rdT cs)]).length = k + 1
      rw [List.length_append, hwn]
      rfl
    · have : k = 4 := by omega
      subst this
      rw [if_neg (fun z => hk ((nlt (by omega) (by omega)).mp z))]
      unfold f_L_law_105 f_L_law_121
      rw [if_neg (show ¬ nI 1 = nI 0 by decide)]
      refine Dn.bind (isAll_ok hI hM) (fun M1 g1 => ?_)
      dsimp only
      rw [if_neg (show ¬ nI 1 = nI 0 by decide)]
      exact lw_124 hx fuelN 0 a M1 (Nat.zero_le _) (by unfold fuelN; omega) ⟨hI, hend, by rw [hev]; exact Nat.le_refl _, hf (by omega)⟩ g1
theorem RelC0 : RelC MC0 A0 := ⟨56, 83, fun i => 110 + 27 * i, [], CEL0, FT0, RC0, (fun i h => by cases h), (fun s h => by cases h), by decide, by decide, by decide, (fun i h => by cases h)⟩
theorem law_ok (x : Scr) (hx : x.1 ≤ 260) : Dn (f_L_law x MC0) := by
  have I0 : Inv A0 := ⟨okA0, fun w hw => by cases hw⟩
  unfold f_L_law
  refine Dn.bind (c_undo0 RelC0 rfl) (fun M1 g1 => ?_)
  dsimp only
  rw [if_pos rfl]
  refine Dn.bind (c_restore0 g1 rfl) (fun M2 g2 => ?_)
  dsimp only
  rw [if_pos rfl]
  refine Dn.bind (c_addF okA0 g2 (k := 0) rfl) (fun M3 g3 => ?_)
  dsimp only
  rw [if_pos (by decide)]
  unfold f_L_law_40
  exact lw_43 hx fuelN 0 A0 M3 (Nat.zero_le _) (by unfold fuelN; omega) ⟨I0, rfl, rfl, rfl, fun h => absurd h (Nat.lt_irrefl _)⟩ g3
