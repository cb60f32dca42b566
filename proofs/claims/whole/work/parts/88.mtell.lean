/-! the model: true at the end, signs, letters -/
def one (b : Bool) : Nat := if b = true then 1 else 0
theorem bI_one (b : Bool) : bI b = nI (one b) := rfl
def cnt1 (l : List T) : Nat := (l.map fun t => one (tae t)).sum
theorem cnt1_all (l : List T) : cnt1 l ≤ l.length ∧ (cnt1 l = l.length ↔ (l.map tae).all id = true) := by
  unfold cnt1
  induction l with
  | nil => exact ⟨Nat.le_refl _, by simp⟩
  | cons a l ih =>
    simp only [List.map_cons, List.sum_cons, List.length_cons, List.all_cons, id_eq, Bool.and_eq_true]
    obtain ⟨h1, h2⟩ := ih
    cases h : tae a with
    | false =>
      have : one false = 0 := rfl
      rw [this]
      refine ⟨by omega, ?_⟩
      constructor
      · intro q; omega
      · rintro ⟨q, -⟩; cases q
    | true =>
      have : one true = 1 := rfl
      rw [this]
      refine ⟨by omega, ?_⟩
      rw [← h2]
      constructor
      · intro q; exact ⟨rfl, by omega⟩
      · rintro ⟨-, q⟩; omega
theorem cnt1_any (l : List T) : 0 < cnt1 l ↔ (l.map tae).any id = true := by
  unfold cnt1
  induction l with
  | nil => simp
  | cons a l ih =>
    simp only [List.map_cons, List.sum_cons, List.any_cons, id_eq, Bool.or_eq_true]
    rw [← ih]
    cases h : tae a with
    | false =>
      have : one false = 0 := rfl
      rw [this]
      constructor
      · intro q; exact Or.inr (by omega)
      · rintro (q | q)
        · cases q
        · omega
    | true =>
      have : one true = 1 := rfl
      rw [this]
      constructor
      · intro _; exact Or.inl rfl
      · intro _; omega
theorem tae_leaf : ∀ k, k < 16 → tae (lf k) = (k == 1 || k == 3 || Nat.ble 10 k) := by
  intro k hk
  unfold lf
  rw [tae_nd, if_pos hk]
theorem tae_eq (t : T) : tae t = if kind t < 16 then (kind t == 1 || kind t == 3 || Nat.ble 10 (kind t)) else if kind t = 17 ∨ kind t = 19 then true else if kind t = 20 then ((kids t).map tae).all id else if kind t = 21 then ((kids t).map tae).any id else false := by
  rw [← tae_nd, nd_eta]
def TB (M : Mem) (tb : List T) (k : Nat) : Prop := ∀ i, i < k → M 227 i = bI (tae (dn tb i))
theorem TB.set {M : Mem} {tb : List T} {k : Nat} (h : TB M tb k) {b : Bool} (hb : b = tae (dn tb k)) : TB (mwr M 227 k (bI b)) tb (k + 1) := fun i hi => by
  by_cases q : i = k
  · subst q
    rw [mwr_at, hb]
  · rw [mwr_in _ q]
    exact h i (by omega)
theorem isTrue_98 {M : Mem} {tb : List T} (h : MT M tb) {k : Nat} (h16 : 16 ≤ k) (hk : k < 16 + tb.length) (hk20 : 20 ≤ kind (dn tb k)) (hT : TB M tb k) {k2 : Int32 → Int32 → Mem → Option Rv} {x1 : Int32} :
    ∀ (n j : Nat), j ≤ nkid (dn tb k) → nkid (dn tb k) - j < n → f_X7_isTrue_98 k2 n x1 (nI k) (nI (cnt1 ((kids (dn tb k)).take j))) (nI j) M = k2 x1 (nI (k + 1)) (mwr M 227 k (bI (tae (dn tb k)))) := by
  have hl := h.2.1
  have hA := MT_AR h hk
  have hAl := AR_le hA
  have aa := (h.2.2.2.2.2.1 k hk).1
  have nk := MT_nk h hk
  obtain ⟨-, n2⟩ := MT_node h h16 hk
  obtain ⟨s, hs, q1, q2, ki, q3⟩ := n2 hk20
  intro n
  induction n with
  | zero => intro j _ h; omega
  | succ n ih =>
    intro j h1 h2
    rw [f_X7_isTrue_98, mrd_n (by omega) (by omega), Option.bind_some, q2]
    unfold f_X7_isTrue_169 f_X7_isTrue_173 f_X7_isTrue_174 f_X7_isTrue_175
    by_cases hj : j < nkid (dn tb k)
    · obtain ⟨k1, k2', k3⟩ := q3 j hj
      have hjk : j < (kids (dn tb k)).length := hj
      rw [if_pos ((nlt (by omega) (by omega)).mpr hj)]
      simp (disch := omega) only [mrd_n, Option.bind_some, q1, nI_add, k2', hT (ki j) k1]
      rw [bI_one (tae (dn tb (ki j))), nI_add]
      have e : cnt1 ((kids (dn tb k)).take (j + 1)) = cnt1 ((kids (dn tb k)).take j) + one (tae (dn tb (ki j))) := by
        unfold cnt1
        rw [take_sum (fun t => one (tae t)) hjk, k3]
      rw [← e]
      exact ih (j + 1) (by omega) (by omega)
    · have hj' : j = nkid (dn tb k) := by omega
      rw [if_neg (fun q => hj ((nlt (by omega) (by omega)).mp q))]
      rw [hj', show (kids (dn tb k)).take (nkid (dn tb k)) = kids (dn tb k) from List.take_length]
      obtain ⟨c1, c2⟩ := cnt1_all (kids (dn tb k))
      have c3 := cnt1_any (kids (dn tb k))
      have hc : cnt1 (kids (dn tb k)) ≤ 80000 := Nat.le_trans c1 nk
      have c2' : cnt1 (kids (dn tb k)) = nkid (dn tb k) ↔ _ := c2
      have ht := tae_eq (dn tb k)
      rw [if_neg (show ¬ kind (dn tb k) < 16 by omega), if_neg (show ¬ (kind (dn tb k) = 17 ∨ kind (dn tb k) = 19) by omega)] at ht
      have fin : ∀ b : Bool, b = tae (dn tb k) → ((mst M 227 8000 (nI k) (bI b)).bind fun M1 => k2 x1 (nI k + nI 1) M1) = k2 x1 (nI (k + 1)) (mwr M 227 k (bI (tae (dn tb k)))) := fun b hb => by
        rw [mst_n (by omega) (by omega), Option.bind_some, nI_add, hb]
      have fT := fin true
      have fF := fin false
      rw [bI_t] at fT
      rw [bI_f] at fF
      rw [mrd_n (by omega) (by omega), Option.bind_some, aa]
      by_cases k20 : kind (dn tb k) = 20
      · rw [if_pos k20] at ht
        rw [if_pos ((neq (by omega) (by omega)).mpr (show kind (dn tb k) - 15 = 5 by omega)), Option.bind_some]
        by_cases q : cnt1 (kids (dn tb k)) = nkid (dn tb k)
        · rw [if_pos (by rw [q])]
          exact fT (by rw [ht, c2'.mp q])
        · rw [if_neg (fun e => q ((neq (by omega) (by omega)).mp e))]
          refine fF ?_
          rw [ht]
          cases e : ((kids (dn tb k)).map tae).all id
          · rfl
          · exact absurd (c2'.mpr e) q
      · rw [if_neg k20, if_pos (by omega)] at ht
        rw [if_neg (fun e => by have := (neq (by omega) (by omega)).mp e; omega)]
        by_cases q : 0 < cnt1 (kids (dn tb k))
        · rw [if_pos ((nlt (by omega) (by omega)).mpr q)]
          exact fT (by rw [ht, c3.mp q])
        · rw [if_neg (fun e => q ((nlt (by omega) (by omega)).mp e))]
          refine fF ?_
          rw [ht]
          cases e : ((kids (dn tb k)).map tae).any id
          · rfl
          · exact absurd (c3.mpr e) q
theorem isTrue_2 {tb : List T} {form : Nat} (hf : form < 16 + tb.length) : ∀ (n k : Nat) (M : Mem), MT M tb → k ≤ form + 17 → (k ≤ form + 1 ∨ k ≤ 16) → form + 17 - k < n → TB M tb k → ∃ M', f_X7_isTrue_2 n (nI form) (nI k) M = some (bI (tae (dn tb form)), M') ∧ MT M' tb ∧ ∀ c, c ≠ 227 → M' c = M c := by
  intro n
  induction n with
  | zero => intro k M _ _ _ h; omega
  | succ n ih =>
    intro k M h hk1 hk2 hn hT
    have hl := h.2.1
    rw [f_X7_isTrue_2]
    unfold f_X7_isTrue_13 f_X7_isTrue_40 f_X7_isTrue_45 f_X7_isTrue_84 f_X7_isTrue_89 f_X7_isTrue_175 f_X7_isTrue_196
    have put : ∀ b : Bool, k < 16 + tb.length → (k < 16 ∨ k ≤ form) → b = tae (dn tb k) → ∃ M', ((mst M 227 8000 (nI k) (bI b)).bind fun M1 => f_X7_isTrue_2 n (nI form) (nI k + nI 1) M1) = some (bI (tae (dn tb form)), M') ∧ MT M' tb ∧ ∀ c, c ≠ 227 → M' c = M c := by
      intro b hkb hkf hb
      rw [mst_n (by omega) (by omega), Option.bind_some, nI_add]
      obtain ⟨M', e1, f1, o1⟩ := ih (k + 1) (mwr M 227 k (bI b)) (h.fb227 k _) (by omega) (by omega) (by omega) (hT.set hb)
      exact ⟨M', e1, f1, fun c hc => by rw [o1 c hc, mwr_ne _ _ _ hc]⟩
    have pT := put true
    have pF := put false
    rw [bI_t] at pT
    rw [bI_f] at pF
    by_cases q1 : k < 16
    · have hcond : ∀ A B : Option Rv, (if nI form < nI k then if nI k < nI 16 then A else B else A) = A := fun A B => by
        rw [if_pos (show nI k < nI 16 from (nlt (by omega) (by omega)).mpr q1)]
        split <;> rfl
      have hte := tae_leaf k q1
      rw [← dn_lf (tb := tb) q1] at hte
      rw [hcond, if_pos ((nlt (by omega) (by omega)).mpr q1)]
      simp (disch := omega) only [neq, nlt]
      by_cases a1 : k = 1
      · rw [if_pos a1]
        exact pT (by omega) (Or.inl q1) (by rw [hte, a1]; rfl)
      · rw [if_neg a1]
        by_cases a2 : k = 3
        · rw [if_pos a2]
          exact pT (by omega) (Or.inl q1) (by rw [hte, a2]; rfl)
        · rw [if_neg a2]
          by_cases a3 : k < 10
          · rw [if_pos a3]
            refine pF (by omega) (Or.inl q1) ?_
            have e : Nat.ble 10 k = false := by
              cases e : Nat.ble 10 k
              · rfl
              · have := Nat.ble_eq.mp e; omega
            rw [hte, e]
            simp [a1, a2]
          · rw [if_neg a3]
            refine pT (by omega) (Or.inl q1) ?_
            rw [hte, Nat.ble_eq.mpr (by omega)]
            simp
    · by_cases q2 : form < k
      · rw [if_pos ((nlt (by omega) (by omega)).mpr q2), if_neg (fun q => q1 ((nlt (by omega) (by omega)).mp q))]
        rw [mrd_n (by omega) (by omega), Option.bind_some, hT form q2]
        cases e : tae (dn tb form) with
        | true =>
          rw [bI_t, if_pos rfl, mrz_1]
          exact ⟨M, rfl, h, fun _ _ => rfl⟩
        | false =>
          rw [bI_f, if_neg (by decide), mrz_0]
          exact ⟨M, rfl, h, fun _ _ => rfl⟩
      · rw [if_neg (fun q => q2 ((nlt (by omega) (by omega)).mp q)), if_neg (fun q => q1 ((nlt (by omega) (by omega)).mp q))]
        have hkl : k < 16 + tb.length := by omega
        have aa := (h.2.2.2.2.2.1 k hkl).1
        have hAl := AR_le (MT_AR h hkl)
        have hk16 := (dn_kind h.1 hkl).2 (by omega)
        have ht := tae_eq (dn tb k)
        rw [if_neg (show ¬ kind (dn tb k) < 16 by omega)] at ht
        simp (disch := omega) only [mrd_n, Option.bind_some, aa, nlt, neq]
        by_cases k20 : kind (dn tb k) < 20
        · rw [if_pos (show kind (dn tb k) - 15 < 5 by omega)]
          by_cases a1 : kind (dn tb k) = 17
          · rw [if_pos (show kind (dn tb k) - 15 = 2 by omega)]
            exact pT hkl (Or.inr (by omega)) (by rw [ht, if_pos (Or.inl a1)])
          · rw [if_neg (show ¬ kind (dn tb k) - 15 = 2 by omega)]
            by_cases a2 : kind (dn tb k) = 19
            · rw [if_pos (show kind (dn tb k) - 15 = 4 by omega)]
              exact pT hkl (Or.inr (by omega)) (by rw [ht, if_pos (Or.inr a2)])
            · rw [if_neg (show ¬ kind (dn tb k) - 15 = 4 by omega)]
              exact pF hkl (Or.inr (by omega)) (by rw [ht, if_neg (show ¬ (kind (dn tb k) = 17 ∨ kind (dn tb k) = 19) by omega), if_neg (show ¬ kind (dn tb k) = 20 by omega), if_neg (show ¬ kind (dn tb k) = 21 by omega)])
        · rw [if_neg (show ¬ kind (dn tb k) - 15 < 5 by omega)]
          have nk := MT_nk h hkl
          have e := isTrue_98 h (by omega) hkl (by omega) hT (k2 := f_X7_isTrue_2 n) (x1 := nI form) fuelN 0 (Nat.zero_le _) (by unfold fuelN; omega)
          rw [List.take_zero, show cnt1 [] = 0 from rfl] at e
          rw [e]
          obtain ⟨M', e1, f1, o1⟩ := ih (k + 1) (mwr M 227 k (bI (tae (dn tb k)))) (h.fb227 k _) (by omega) (by omega) (by omega) (hT.set rfl)
          exact ⟨M', e1, f1, fun c hc => by rw [o1 c hc, mwr_ne _ _ _ hc]⟩
theorem isTrue_ok {M : Mem} {tb : List T} (h : MT M tb) {form : Nat} (hf : form < 16 + tb.length) : ∃ M', f_X7_isTrue (nI form) M = some (bI (tae (dn tb form)), M') ∧ MT M' tb ∧ ∀ c, c ≠ 227 → M' c = M c := by
  have hl := h.2.1
  exact isTrue_2 hf fuelN 0 M h (by omega) (by omega) (by unfold fuelN; omega) (fun i hi => by omega)
/-! signs -/
theorem fold_bit (s : Nat) : ∀ (l : List Nat) (a : Nat), (l.foldl (· ||| ·) a).testBit s = (a.testBit s || l.any fun x => x.testBit s) := by
  intro l
  induction l with
  | nil => intro a; simp
  | cons x l ih =>
    intro a
    rw [List.foldl_cons, ih, Nat.testBit_or, List.any_cons, Bool.or_assoc]
theorem sgn_bit : ∀ (t : T), AR t = true → ∀ s, s < 6 → ((sgn t).testBit s = true ↔ lf (4 + s) ∈ subl t ∨ lf (10 + s) ∈ subl t) := by
  intro t
  induction t using T_ind with
  | h k ts ih =>
    intro hA s hs
    have hAk := ((AR_nd _ _).mp hA).2
    rcases Nat.lt_or_ge k 16 with hk | hk
    · have := AR_leaf hA (by rw [kind_nd]; exact hk)
      rw [kind_nd] at this
      rw [this]
      have h1 : sgn (lf k) = if k < 4 then 0 else 2 ^ ((k - 4) % 6) := by
        unfold lf sgn
        rw [tfold_nd]
        split
        · rfl
        · first | rfl | rw [if_pos hk]
      have h2 : subl (lf k) = [lf k] := by rw [subl_eq, kids_lf]; rfl
      rw [h1, h2, List.mem_singleton, List.mem_singleton]
      have e : ∀ k, k < 16 → ∀ s, s < 6 → ((if k < 4 then 0 else 2 ^ ((k - 4) % 6) : Nat).testBit s = true ↔ 4 + s = k ∨ 10 + s = k) := by decide +kernel
      rw [e k hk s hs]
      constructor
      · rintro (q | q)
        · exact Or.inl (by rw [q])
        · exact Or.inr (by rw [q])
      · rintro (q | q)
        · exact Or.inl (lf_inj q)
        · exact Or.inr (lf_inj q)
    · rw [sgn_nd hk, fold_bit]
      simp only [Nat.zero_testBit, Bool.false_or, List.any_eq_true, List.mem_map]
      constructor
      · rintro ⟨x, ⟨u, hu, rfl⟩, hx⟩
        rcases (ih u hu (hAk u hu) s hs).mp hx with q | q
        · exact Or.inl (subl_of_kid (by rw [kids_nd]; exact hu) q)
        · exact Or.inr (subl_of_kid (by rw [kids_nd]; exact hu) q)
      · intro q
        have key : ∀ i, i < 16 → lf i ∈ subl (nd k ts) → ∃ u ∈ ts, lf i ∈ subl u := fun i hi hm => by
          rcases subl_inv hm with e | ⟨u, hu, hm⟩
          · have := congrArg kind e
            rw [kind_lf, kind_nd] at this
            omega
          · rw [kids_nd] at hu
            exact ⟨u, hu, hm⟩
        rcases q with q | q
        · obtain ⟨u, hu, hm⟩ := key _ (by omega) q
          exact ⟨_, ⟨u, hu, rfl⟩, (ih u hu (hAk u hu) s hs).mpr (Or.inl hm)⟩
        · obtain ⟨u, hu, hm⟩ := key _ (by omega) q
          exact ⟨_, ⟨u, hu, rfl⟩, (ih u hu (hAk u hu) s hs).mpr (Or.inr hm)⟩
theorem fold_lt : ∀ (l : List Nat) (a : Nat), a < 64 → (∀ x ∈ l, x < 64) → l.foldl (· ||| ·) a < 64 := by
  intro l
  induction l with
  | nil => intro a h _; exact h
  | cons x l ih =>
    intro a h1 h2
    exact ih (a ||| x) (Nat.or_lt_two_pow (n := 6) h1 (h2 x List.mem_cons_self)) (fun y hy => h2 y (List.mem_cons_of_mem _ hy))
theorem sgn_lt : ∀ (t : T), AR t = true → sgn t < 64 := by
  intro t
  induction t using T_ind with
  | h k ts ih =>
    intro hA
    have hAk := ((AR_nd _ _).mp hA).2
    rcases Nat.lt_or_ge k 16 with hk | hk
    · have h1 : sgn (nd k ts) = if k < 4 then 0 else 2 ^ ((k - 4) % 6) := by
        unfold sgn
        rw [tfold_nd]
        split
        · rfl
        · first | rfl | rw [if_pos hk]
      rw [h1]
      have e : ∀ k, k < 16 → (if k < 4 then 0 else 2 ^ ((k - 4) % 6) : Nat) < 64 := by decide +kernel
      exact e k hk
    · rw [sgn_nd hk]
      refine fold_lt _ 0 (by omega) (fun x hx => ?_)
      obtain ⟨u, hu, rfl⟩ := List.mem_map.mp hx
      exact ih u hu (hAk u hu)
theorem mod_bit : ∀ n, n < 64 → ∀ k, k < 6 → n % 2 ^ (k + 1) = (n % 2 ^ k) ||| (if n.testBit k = true then 2 ^ k else 0) := by decide +kernel
theorem signs_9 {M : Mem} {tb : List T} {form : Nat} (h : MT M tb) (hf : form < 16 + tb.length) (hm : MK M form (fun j => dn tb j ∈ subl (dn tb form))) : ∀ (n k : Nat), k ≤ 6 → 6 - k < n → f_X7_signs_9 n (nI (sgn (dn tb form) % 2 ^ k)) (nI k) M = some (nI (sgn (dn tb form)), M) := by
  have hA := MT_AR h hf
  have hlt := sgn_lt _ hA
  intro n
  induction n with
  | zero => intro k _ h; omega
  | succ n ih =>
    intro k hk hn
    rw [f_X7_signs_9]
    unfold f_X7_signs_39 f_X7_signs_46
    by_cases hk6 : k < 6
    · simp (disch := omega) only [nlt, hk6, if_true, nI_add, mrd_n, Option.bind_some, shl1 k (by omega), nI_or]
      have hb := sgn_bit _ hA k hk6
      have hmod := mod_bit _ hlt k hk6
      have fin := ih (k + 1) (by omega) (by omega)
      rw [hmod] at fin
      have m4 := hm (4 + k) (Or.inl (by omega))
      have m10 := hm (10 + k) (Or.inl (by omega))
      simp only [dn_lf (show 4 + k < 16 by omega)] at m4
      simp only [dn_lf (show 10 + k < 16 by omega)] at m10
      by_cases a : lf (4 + k) ∈ subl (dn tb form)
      · rw [m4.1 a, if_neg (by decide)]
        rw [hb.mpr (Or.inl a), if_pos rfl] at fin
        exact fin
      · rw [m4.2 a, if_pos rfl]
        by_cases b : lf (10 + k) ∈ subl (dn tb form)
        · rw [m10.1 b, if_neg (by decide)]
          rw [hb.mpr (Or.inr b), if_pos rfl] at fin
          exact fin
        · rw [m10.2 b, if_pos rfl]
          have : (sgn (dn tb form)).testBit k = false := by
            cases e : (sgn (dn tb form)).testBit k
            · rfl
            · rcases hb.mp e with q | q
              · exact absurd q a
              · exact absurd q b
          rw [this, if_neg (by decide)] at fin
          exact fin
    · have : k = 6 := by omega
      subst this
      simp (disch := omega) only [nlt, Nat.lt_irrefl, if_false]
      rw [Nat.mod_eq_of_lt hlt]
theorem signs_ok {M : Mem} {tb : List T} (h : MT M tb) {form : Nat} (hf : form < 16 + tb.length) : ∃ M', f_X7_signs (nI form) M = some (nI (sgn (dn tb form)), M') ∧ MT M' tb ∧ ∀ c, c ≠ 228 → M' c = M c := by
  unfold f_X7_signs
  obtain ⟨M1, e1, f1, g1, o1⟩ := mark_ok h hf
  rw [e1, Option.bind_some]
  have := signs_9 f1 hf g1 fuelN 0 (by omega) (by unfold fuelN; omega)
  rw [Nat.pow_zero, Nat.mod_one] at this
  exact ⟨M1, this, f1, o1⟩
