/-! happens(): an event does what would() has told -/
theorem kd0 {t : T} (h : AR t = true) {i : Nat} (hk : kind t = i) (hi : i < 16) : t = lf i := by
  have := AR_leaf h (by omega)
  rw [hk] at this
  exact this
theorem wv_0 {l : List T} : wv l = 0 ↔ ∃ t ∈ l, kind t = 0 := by
  unfold wv
  constructor
  · intro h
    split at h
    next q =>
      obtain ⟨t, ht, e⟩ := List.any_eq_true.mp q
      exact ⟨t, ht, by simpa using e⟩
    next => split at h <;> omega
  · rintro ⟨t, ht, e⟩
    rw [if_pos (List.any_eq_true.mpr ⟨t, ht, by simpa using e⟩)]
theorem wv_1 {l : List T} (hl : 1 ≤ l.length) : wv l = 1 ↔ ∀ t ∈ l, kind t = 1 := by
  unfold wv
  constructor
  · intro h
    split at h
    next => omega
    next =>
      split at h
      next q => intro t ht; have := List.all_eq_true.mp q t ht; simpa using this
      next => omega
  · intro h
    have h0 : ¬ (l.any fun t => kind t == 0) = true := fun q => by
      obtain ⟨t, ht, e⟩ := List.any_eq_true.mp q
      have := h t ht
      have : kind t = 0 := by simpa using e
      omega
    rw [if_neg h0, if_pos (List.all_eq_true.mpr (fun t ht => by have := h t ht; simpa using this))]
theorem rws_small {set : Nat} {t : T} (h : bgT set t = false) : rws set t = rew set t := by
  unfold rws
  unfold bgT at h
  rw [if_pos (by have := of_decide_eq_false h; omega)]
theorem evP_rew {set : Nat} {w : Wsh} (h : (wP w).any (bgT set) = false) : evP set w = (wP w).map (rew set) := by
  unfold evP
  apply List.map_congr_left
  intro t ht
  refine rws_small ?_
  cases q : bgT set t with
  | false => rfl
  | true => rw [List.any_eq_true.mpr ⟨t, ht, q⟩] at h; cases h
theorem rws_lf {set k : Nat} (hk : k < 16) : rws set (lf k) = lf (lfv set k) := by
  unfold rws
  rw [rew_lf set hk, if_pos (by rw [size_lf]; omega)]
/-- a verdict stays -/
theorem evP_dec {set : Nat} {w : Wsh} (hw : okW w) (hv : wv (wP w) ≠ 2) : wv (evP set w) = wv (wP w) := by
  have hp := hw.2.2
  have h3 := wv_le (wP w)
  rcases (show wv (wP w) = 0 ∨ wv (wP w) = 1 by omega) with h | h
  · rw [h]
    obtain ⟨t, ht, e⟩ := wv_0.mp h
    refine wv_0.mpr ⟨rws set t, List.mem_map_of_mem ht, ?_⟩
    have ht0 := kd0 (hp.2.2 t ht).1 e (by omega)
    rw [ht0, rws_lf (by omega)]
    rfl
  · rw [h]
    have h1 := (wv_1 hp.1).mp h
    refine (wv_1 (by unfold evP; rw [List.length_map]; exact hp.1)).mpr (fun x hx => ?_)
    obtain ⟨t, ht, rfl⟩ := List.mem_map.mp hx
    have ht0 := kd0 (hp.2.2 t ht).1 (h1 t ht) (by omega)
    rw [ht0, rws_lf (by omega)]
    rfl
theorem evW_InvW {set n : Nat} {w : Wsh} (hw : okW w) (h : InvW n w) (hn : n < 40) : InvW (n + 1) (evW set (nI n) w) := by
  obtain ⟨h1, h2, h3⟩ := h
  unfold evW
  split
  next =>
    unfold evI
    split
    next q =>
      unfold evB at q
      simp only [Bool.and_eq_true, beq_iff_eq, bne_iff_ne] at q
      have h5 := wv_le (evP set w)
      refine ⟨rfl, by show w.2.2.2.2.1 ≤ n + 1; omega, Or.inr ⟨by show wv (evP set w) < 2; omega, n, rfl, h2, hn, ?_⟩⟩
      show (if wv (evP set w) = 0 then nI (blm w set 6) else nI 0) = nI 0 ∨ wv (evP set w) = 0
      by_cases z : wv (evP set w) = 0
      · exact Or.inr z
      · exact Or.inl (if_neg z)
    next q =>
      refine ⟨?_, by show w.2.2.2.2.1 ≤ n + 1; omega, h3⟩
      show w.2.1 = wv (evP set w)
      by_cases z : w.2.1 = 2
      · have : evB set w = false := by simpa using q
        unfold evB at this
        rw [z] at this
        have e : wv (evP set w) = 2 := by simpa using this
        rw [z, e]
      · rw [evP_dec hw (by rw [← h1]; exact z)]; exact h1
  next => exact ⟨h1, by omega, h3⟩
theorem evF_Inv {set : Nat} {s : Sta} (hs : okS s) (h : ∀ w ∈ s.2.2, InvW s.2.1.length w) (hn : s.2.1.length < 40) : ∀ w ∈ (evF set s).2.2, InvW (evF set s).2.1.length w := by
  intro w hw
  obtain ⟨x, hx, rfl⟩ := List.mem_map.mp hw
  have e : (evF set s).2.1.length = s.2.1.length + 1 := by
    show (s.2.1 ++ [set]).length = _
    rw [List.length_append]; rfl
  rw [e]
  exact evW_InvW (hs.2.2.2 x hx) (h x hx) hn
theorem evW_1 {set : Nat} {tm : Int32} {w : Wsh} : (evW set tm w).1 = w.1 := by
  unfold evW
  split
  · unfold evI
    split <;> rfl
  · rfl
theorem evF_at {set k : Nat} {s : Sta} : (evF set s).2.2[k]? = (s.2.2[k]?).map (evW set (nI s.2.1.length)) := List.getElem?_map
theorem evF_tw {set k : Nat} {s : Sta} {w : Wsh} (h : tw s k = some w) : tw (evF set s) k = some (evW set (nI s.2.1.length) w) := by
  obtain ⟨hk, e, hw⟩ := tw_some h
  unfold tw
  rw [evF_at, List.getElem?_eq_getElem hk, e]
  show (if (evW set (nI s.2.1.length) w).1 = true then some (evW set (nI s.2.1.length) w) else none) = _
  rw [evW_1, if_pos hw]
/-- as many are open less -/
theorem evF_open {set : Nat} {s : Sta} : ∀ k, k ≤ s.2.2.length → hmv (evF set s) 2 k + evN set s k = hmv s 2 k := by
  intro k
  induction k with
  | zero => intro _; rfl
  | succ k ih =>
    intro hk
    have hk' : k < s.2.2.length := hk
    have i := ih (by omega)
    rw [hmv_succ, hmv_succ, evN_succ hk', evF_at, List.getElem?_eq_getElem hk']
    show hmv (evF set s) 2 k + one ((evW set (nI s.2.1.length) s.2.2[k]).1 && (evW set (nI s.2.1.length) s.2.2[k]).2.1 == 2) + (evN set s k + one (s.2.2[k].1 && evB set s.2.2[k])) = hmv s 2 k + one (s.2.2[k].1 && s.2.2[k].2.1 == 2)
    rw [evW_1]
    generalize s.2.2[k] = w at *
    have : one (w.1 && (evW set (nI s.2.1.length) w).2.1 == 2) + one (w.1 && evB set w) = one (w.1 && w.2.1 == 2) := by
      cases q : w.1 with
      | false => rfl
      | true =>
        rw [Bool.true_and, Bool.true_and, Bool.true_and]
        unfold evW
        rw [if_pos q]
        unfold evI
        cases z : evB set w with
        | true =>
          rw [if_pos rfl]
          unfold evB at z
          simp only [Bool.and_eq_true, beq_iff_eq, bne_iff_ne] at z
          have e1 : (wv (evP set w) == 2) = false := by simpa using z.2
          have e2 : (w.2.1 == 2) = true := by simpa using z.1
          show one (wv (evP set w) == 2) + one true = one (w.2.1 == 2)
          rw [e1, e2]; rfl
        | false =>
          rw [if_neg (by decide)]
          show one (w.2.1 == 2) + one false = one (w.2.1 == 2)
          exact Nat.add_zero _
    omega
/-- the verdict is the one that was told -/
theorem evW_wb {set : Nat} {tm : Int32} {w : Wsh} (hth : w.1 = true) (hs : (wP w).any (bgT set) = false) : (evW set tm w).2.1 = wb w set ∧ (w.2.1 = 2 → wb w set ≠ 2 → (evW set tm w).2.2.1 = tm ∧ (evW set tm w).2.2.2.1 = if wb w set = 0 then nI (blm w set 6) else nI 0) := by
  have e := evP_rew hs
  unfold evW
  rw [if_pos hth]
  unfold evI wb
  rw [← e]
  cases z : evB set w with
  | true =>
    rw [if_pos rfl]
    unfold evB at z
    simp only [Bool.and_eq_true, beq_iff_eq, bne_iff_ne] at z
    rw [if_pos z.1]
    exact ⟨rfl, fun _ _ => ⟨rfl, rfl⟩⟩
  | false =>
    rw [if_neg (by decide)]
    unfold evB at z
    by_cases q : w.2.1 = 2
    · rw [if_pos q]
      rw [q] at z
      have e2 : wv (evP set w) = 2 := by simpa using z
      rw [e2]
      exact ⟨q, fun _ h => absurd rfl h⟩
    · rw [if_neg q]
      exact ⟨rfl, fun h => absurd h q⟩
/-- an answer, and what the object stands for then -/
def AnsE (o : Option Rv) (v : Int32) (P : Abs → Prop) : Prop := ∃ b, P b ∧ Ans o v b
theorem AnsE.bind {o : Option Rv} {F : Rv → Option Rv} {v w : Int32} {a : Abs} {P : Abs → Prop} (h : Ans o v a) (k : ∀ M', RelC M' a → AnsE (F (v, M')) w P) : AnsE (o.bind F) w P := by
  obtain ⟨M', e, h2⟩ := h
  rw [e, Option.bind_some]
  exact k M' h2
/-- what an act leaves -/
def Nx (a b : Abs) : Prop := Inv b ∧ b.1.1 = a.1.1 ∧ b.2.2 = a.2.2 ∧ b.1.2.1.length ≤ a.1.2.1.length + 1
theorem Nx.rfl' {a : Abs} (h : Inv a) : Nx a a := ⟨h, rfl, rfl, by omega⟩
theorem Nx_ev {a : Abs} {set : Nat} (h : Inv a) (hset : set < 64) (hn : a.1.2.1.length < 40) : Nx a (evF set a.1, recd a.2.1 a.1, a.2.2) := by
  refine ⟨⟨okA_act h.1 (evF_ok h.1.1 hset hn), evF_Inv h.1.1 h.2 hn⟩, rfl, rfl, ?_⟩
  show (a.1.2.1 ++ [set]).length ≤ _
  rw [List.length_append]
  exact Nat.le_refl _
/-- behind the event: everything is compared -/
theorem hp_end {a : Abs} {k set : Nat} {x3 x6 x7 : Int32} {M : Mem} (hI : Inv a) (h : RelC M a) (hset : set < 64) (hend : a.1.1 = false) (hn : a.1.2.1.length < 40)
    (hyes : a.1.2.2.any (bgW set) = false → ∀ M', RelC M' (evF set a.1, recd a.2.1 a.1, a.2.2) → Ans (f_L_happens_172 (nI k) x3 (nI a.1.2.1.length) x6 x7 (nI 1) M') (nI 1) (evF set a.1, recd a.2.1 a.1, a.2.2)) (n : Nat) :
    AnsE (f_L_happens_44 (n + 1) (nI set) (nI k) x3 (nI (hmv a.1 2 a.1.2.2.length)) (nI a.1.2.1.length) x6 x7 (nI 6) M) (nI 1) (Nx a) := by
  have hA := hI.1
  have h8 := hA.1.2.2.1
  rw [f_L_happens_44, if_neg (show ¬ nI 6 < nI 6 by decide)]
  rcases c_event hA h hset hend hn with e | ⟨g1, e⟩
  · refine ⟨a, Nx.rfl' hI, ?_⟩
    refine Ans.bind e (fun M1 k1 => ?_)
    dsimp only
    rw [if_pos (show (-3 : Int32) < nI 0 by decide), if_pos rfl]
    refine Ans.bind (c_count hA k1 (q := 0) (by omega)) (fun M2 k2 => ?_)
    dsimp only
    rw [show cq a 0 = nI a.1.2.1.length from rfl, if_pos rfl]
    unfold f_L_happens_118
    exact Ans.zt k2
  · refine ⟨_, Nx_ev hI hset hn, ?_⟩
    have oka : okA (evF set a.1, recd a.2.1 a.1, a.2.2) := okA_act hA (evF_ok hA.1 hset hn)
    have hN := evN_le set a.1 a.1.2.2.length (Nat.le_refl _)
    have hm := hmv_le a.1 2 a.1.2.2.length
    have ho := evF_open (set := set) (s := a.1) a.1.2.2.length (Nat.le_refl _)
    have hlen : (evF set a.1).2.1.length = a.1.2.1.length + 1 := by
      show (a.1.2.1 ++ [set]).length = _
      rw [List.length_append]; rfl
    have hlen2 : (evF set a.1).2.2.length = a.1.2.2.length := List.length_map _
    refine Ans.bind e (fun M1 k1 => ?_)
    dsimp only
    rw [if_neg (neg_n (show evN set a.1 a.1.2.2.length < 2147483648 by omega))]
    refine Ans.bind (c_at oka k1 (t := a.1.2.1.length) (by omega)) (fun M2 k2 => ?_)
    dsimp only
    have e1 : (if h : a.1.2.1.length < (evF set a.1).2.1.length then nI (evF set a.1).2.1[a.1.2.1.length] else -5) = nI set := by
      have hlt : a.1.2.1.length < (a.1.2.1 ++ [set]).length := by rw [List.length_append]; exact Nat.lt_succ_self _
      rw [dif_pos (show a.1.2.1.length < (evF set a.1).2.1.length from hlt)]
      suffices fin : nI ((a.1.2.1 ++ [set])[a.1.2.1.length]'hlt) = nI set from fin
      rw [List.getElem_concat_length (by rfl)]
    rw [e1, if_pos rfl, nI_add]
    refine Ans.bind (c_at oka k2 (t := a.1.2.1.length + 1) (by omega)) (fun M3 k3 => ?_)
    dsimp only
    rw [dif_neg (by omega), if_pos rfl]
    refine Ans.bind (c_count oka k3 (q := 4) (by omega)) (fun M4 k4 => ?_)
    dsimp only
    have e2 : cq (evF set a.1, recd a.2.1 a.1, a.2.2) 4 = nI (hmv a.1 2 a.1.2.2.length) - nI (evN set a.1 a.1.2.2.length) := by
      show nI (hmv (evF set a.1) 2 (evF set a.1).2.2.length) = _
      rw [nsub (by omega), hlen2]
      congr 1
      omega
    rw [e2, if_pos rfl]
    refine Ans.bind (c_count oka k4 (q := 0) (by omega)) (fun M5 k5 => ?_)
    dsimp only
    have e3 : cq (evF set a.1, recd a.2.1 a.1, a.2.2) 0 = nI (a.1.2.1.length + 1) := by
      show nI (evF set a.1).2.1.length = _
      rw [hlen]
    rw [e3, if_pos rfl]
    exact hyes g1 M5 k5
theorem hp_44 {a : Abs} {k set : Nat} {w : Wsh} {x3 x4 x5 x7 v : Int32} {P : Abs → Prop} (hA : okA a) (ht : tw a.1 k = some w) (hset : set < 64) (hend : a.1.1 = false) : ∀ (n j : Nat) (M : Mem), j ≤ 6 → 6 - j < n → RelC M a → (∀ M' n, RelC M' a → AnsE (f_L_happens_44 (n + 1) (nI set) (nI k) x3 x4 x5 (nI (blm w set 6)) x7 (nI 6) M') v P) → AnsE (f_L_happens_44 n (nI set) (nI k) x3 x4 x5 (nI (blm w set j)) x7 (nI j) M) v P := by
  have hw := tw_ok hA.1 ht
  intro n
  induction n with
  | zero => intro j M _ h; omega
  | succ n ih =>
    intro j M h1 h2 hM kk
    by_cases hj : j < 6
    · rw [f_L_happens_44, if_pos ((nlt (by omega) (by omega)).mpr hj), shl1' (by omega), nI_xor]
      have hx := xor64 hset hj
      have hwl := wb_le hw (set ^^^ 2 ^ j)
      refine AnsE.bind (c_would hA hM ht hx hend) (fun M1 g1 => ?_)
      dsimp only
      have nx := ih (j + 1) M1 (by omega) (by omega) g1 kk
      rw [blm_succ] at nx
      unfold f_L_happens_75
      simp (disch := omega) only [neq, nI_or, nI_add]
      by_cases z : wb w (set ^^^ 2 ^ j) = 0
      · rw [if_pos z] at nx ⊢
        exact nx
      · rw [if_neg z] at nx ⊢
        exact nx
    · have : j = 6 := by omega
      subst this
      exact kk M n hM
theorem hp_44n {a : Abs} {k set : Nat} {x3 x4 x5 x7 v : Int32} {P : Abs → Prop} (hk9 : k < 1000) (hA : okA a) (ht : tw a.1 k = none) : ∀ (n j : Nat) (x6 : Int32) (M : Mem), j ≤ 6 → 6 - j < n → RelC M a → (∀ M' n x6, RelC M' a → AnsE (f_L_happens_44 (n + 1) (nI set) (nI k) x3 x4 x5 x6 x7 (nI 6) M') v P) → AnsE (f_L_happens_44 n (nI set) (nI k) x3 x4 x5 x6 x7 (nI j) M) v P := by
  intro n
  induction n with
  | zero => intro j x6 M _ h; omega
  | succ n ih =>
    intro j x6 M h1 h2 hM kk
    by_cases hj : j < 6
    · rw [f_L_happens_44, if_pos ((nlt (by omega) (by omega)).mpr hj)]
      refine AnsE.bind (c_would0 hk9 hA hM ht) (fun M1 g1 => ?_)
      dsimp only
      rw [if_neg (show ¬ (-1 : Int32) = nI 0 by decide)]
      unfold f_L_happens_75
      rw [nI_add]
      exact ih (j + 1) _ M1 (by omega) (by omega) g1 kk
    · have : j = 6 := by omega
      subst this
      exact kk M n x6 hM
theorem happens_ok' {M : Mem} {a : Abs} {k set : Nat} (hk : k < 8) (hI : Inv a) (h : RelC M a) (hset : set < 64) (hend : a.1.1 = false) (hn : a.1.2.1.length < 40) : AnsE (f_L_happens (nI set) (nI k) M) (nI 1) (Nx a) := by
  have hA := hI.1
  unfold f_L_happens
  cases ht : tw a.1 k with
  | none =>
    refine AnsE.bind (c_would0 (by omega) hA h ht) (fun M1 g1 => ?_)
    dsimp only
    refine AnsE.bind (c_count hA g1 (q := 4) (by omega)) (fun M2 g2 => ?_)
    dsimp only
    refine AnsE.bind (c_count hA g2 (q := 0) (by omega)) (fun M3 g3 => ?_)
    dsimp only
    refine AnsE.bind (c_wish0 (by omega) hA g3 ht) (fun M4 g4 => ?_)
    dsimp only
    rw [if_neg (show ¬ (-1 : Int32) = nI 2 by decide), show cq a 4 = nI (hmv a.1 2 a.1.2.2.length) from rfl, show cq a 0 = nI a.1.2.1.length from rfl]
    unfold f_L_happens_39
    refine hp_44n (by omega) hA ht fuelN 0 _ M4 (by omega) (by unfold fuelN; omega) g4 (fun M5 n x6 g5 => ?_)
    refine hp_end hI g5 hset hend hn (fun _ M6 g6 => ?_) n
    unfold f_L_happens_172 f_L_happens_233 f_L_happens_238
    rw [if_neg (show ¬ nI 1 = nI 0 by decide), if_pos (show (-1 : Int32) < nI 0 by decide)]
    exact Ans.zt g6
  | some w =>
    have hw := tw_ok hA.1 ht
    have hwv := hw.1
    have hwl := wb_le hw set
    have h40 := hA.1.1
    refine AnsE.bind (c_would hA h ht hset hend) (fun M1 g1 => ?_)
    dsimp only
    refine AnsE.bind (c_count hA g1 (q := 4) (by omega)) (fun M2 g2 => ?_)
    dsimp only
    refine AnsE.bind (c_count hA g2 (q := 0) (by omega)) (fun M3 g3 => ?_)
    dsimp only
    refine AnsE.bind (c_wish hA g3 ht (q := 0) (by omega)) (fun M4 g4 => ?_)
    dsimp only
    rw [show cq a 4 = nI (hmv a.1 2 a.1.2.2.length) from rfl, show cq a 0 = nI a.1.2.1.length from rfl, show wq w 0 = nI w.2.1 from rfl]
    have main : ∀ x7 : Int32, x7 = (if w.2.1 = 2 then nI 1 else nI 0) → AnsE (f_L_happens_39 (nI set) (nI k) (nI (wb w set)) (nI (hmv a.1 2 a.1.2.2.length)) (nI a.1.2.1.length) (nI 0) x7 M4) (nI 1) (Nx a) := by
      intro x7 hx7
      unfold f_L_happens_39
      refine hp_44 hA ht hset hend fuelN 0 M4 (by omega) (by unfold fuelN; omega) g4 (fun M5 n g5 => ?_)
      refine hp_end hI g5 hset hend hn (fun hb M6 g6 => ?_) n
      have okb : okA (evF set a.1, recd a.2.1 a.1, a.2.2) := (Nx_ev hI hset hn).1.1
      have htb : tw (evF set a.1, recd a.2.1 a.1, a.2.2).1 k = some (evW set (nI a.1.2.1.length) w) := evF_tw ht
      obtain ⟨hkk, hwk, hth⟩ := tw_some ht
      have hsm : (wP w).any (bgT set) = false := by
        cases z : (wP w).any (bgT set) with
        | false => rfl
        | true =>
          have : a.1.2.2.any (bgW set) = true := List.any_eq_true.mpr ⟨w, by rw [← hwk]; exact List.getElem_mem hkk, by unfold bgW; rw [hth, z]; rfl⟩
          rw [hb] at this; cases this
      obtain ⟨v1, v2⟩ := evW_wb (tm := nI a.1.2.1.length) hth hsm
      unfold f_L_happens_172 f_L_happens_230 f_L_happens_233 f_L_happens_237 f_L_happens_238
      rw [if_neg (show ¬ nI 1 = nI 0 by decide), if_neg (neg_n (show wb w set < 2147483648 by omega))]
      refine Ans.bind (c_wish okb g6 htb (q := 0) (by omega)) (fun M7 g7 => ?_)
      dsimp only
      rw [show wq (evW set (nI a.1.2.1.length) w) 0 = nI (evW set (nI a.1.2.1.length) w).2.1 from rfl, v1, if_pos rfl, hx7]
      by_cases q : w.2.1 = 2
      · rw [if_pos q, if_neg (show ¬ nI 1 = nI 0 by decide)]
        by_cases q2 : wb w set = 2
        · rw [q2, if_pos rfl]
          exact Ans.zt g7
        · obtain ⟨v3, v4⟩ := v2 q q2
          rw [if_neg (fun z => q2 ((neq (by omega) (by omega)).mp z))]
          refine Ans.bind (c_wish okb g7 htb (q := 4) (by omega)) (fun M8 g8 => ?_)
          dsimp only
          rw [show wq (evW set (nI a.1.2.1.length) w) 4 = (evW set (nI a.1.2.1.length) w).2.2.1 from rfl, v3, if_pos rfl]
          refine Ans.bind (c_wish okb g8 htb (q := 5) (by omega)) (fun M9 g9 => ?_)
          dsimp only
          rw [show wq (evW set (nI a.1.2.1.length) w) 5 = (evW set (nI a.1.2.1.length) w).2.2.2.1 from rfl, v4]
          simp (disch := omega) only [neq]
          by_cases q3 : wb w set = 0
          · rw [if_pos q3, if_pos q3, if_pos rfl]
            exact Ans.zt g9
          · rw [if_neg q3, if_neg q3, if_pos rfl]
            exact Ans.zt g9
      · rw [if_neg q, if_pos rfl]
        exact Ans.zt g7
    by_cases q : w.2.1 = 2
    · rw [if_pos (by rw [q])]
      exact main _ (by rw [if_pos q])
    · rw [if_neg (fun z => q ((neq (by omega) (by omega)).mp z))]
      exact main _ (by rw [if_neg q])
