/-! the class: questions about one wish -/
theorem loadAlone_ok {M : Mem} {tb : List T} {cw p : Nat} {t : T} (hx : 20 ≤ cw) (hp : p < 8) (h : FT M tb) (hA : AR t = true) (hs : size t ≤ 120) (hc : CP M cw p t) :
    ∃ (id : Nat) (M' : Mem) (tb' : List T), f_X6_loadAlone cw (nI p) M = some (nI id, M') ∧ FT M' tb' ∧ (∀ x ∈ tb', x ∈ subl t) ∧ id < 16 + tb'.length ∧ dn tb' id = t ∧ ∀ c, c = 0 ∨ (13 ≤ c ∧ c ≠ 18) → M' c = M c := by
  obtain ⟨M1, e1, f1, o1⟩ := release_ok h (mark := 16) (Nat.le_refl _) (by omega)
  rw [show 16 - 16 = 0 by omega, List.take_zero] at f1
  obtain ⟨id, M2, tc, e2, f2, i2, d2, s2, o2⟩ := load_ok (U := subl t) hx hp (subl_UB hs) f1 hA hs (fun _ h => h) (fun _ h => by cases h) ⟨by rw [o1 _ (by omega) (by omega)]; exact hc.1, hc.2.congr (o1 _ (by omega) (by omega))⟩
  unfold f_X6_loadAlone
  rw [e1, Option.bind_some, e2, Option.bind_some]
  exact ⟨id, M2, tc, rfl, f2, s2, i2, d2, fun c hc => by rw [o2 c hc, o1 c (by omega) (by omega)]⟩
theorem behind_sub {M : Mem} {tb : List T} {t : T} (h : FT M tb) {set root : Nat} (hset : set < 64) (hr2 : root < 16 + tb.length) (hs : size t ≤ 120) (hsub : ∀ x ∈ tb, x ∈ subl t) :
    ∃ (y : Nat) (M' : Mem) (tc : List T), f_X0_behind (nI root) (nI set) M = some (nI y, M') ∧ FT M' (tb ++ tc) ∧ y < 16 + (tb ++ tc).length ∧ dn (tb ++ tc) y = rew set (dn tb root) ∧ ∀ c, c = 0 ∨ 16 ≤ c → M' c = M c := by
  obtain ⟨r1, r2, r3, r4⟩ := sub_room hs h.1 hsub (root - 15) (by omega)
  exact behind_ok h hset hr2 (by omega) (by omega) (fun t ht => by have := r4 t ht; omega)
def vf (u : T) : Nat := if kind u = 0 then 0 else if kind u = 1 then 1 else 2
def wr (a b : Nat) : Nat := if a = 0 ∨ b = 0 then 0 else if a = 2 ∨ b = 2 then 2 else 1
theorem vf_le (u : T) : vf u ≤ 2 := by
  unfold vf
  repeat' split
  all_goals omega
theorem formV_ok {tb : List T} (hk : okT tb) {id : Nat} (hid : id < 16 + tb.length) (hl : tb.length ≤ 2032) (M : Mem) : f_X6_verdictOfForm (nI id) M = some (nI (vf (dn tb id)), M) := by
  have hd := dn_kind hk hid
  unfold f_X6_verdictOfForm f_X6_verdictOfForm_18 vf
  simp (disch := omega) only [neq]
  rcases Nat.lt_or_ge id 16 with q | q
  · rw [hd.1 q]
    by_cases h0 : id = 0
    · rw [if_pos h0, if_pos h0]
    · rw [if_neg h0, if_neg h0]
      by_cases h1 : id = 1
      · rw [if_pos h1, if_pos h1]
      · rw [if_neg h1, if_neg h1]
  · have := hd.2 q
    rw [if_neg (show ¬ id = 0 by omega), if_neg (show ¬ id = 1 by omega), if_neg (show ¬ kind (dn tb id) = 0 by omega), if_neg (show ¬ kind (dn tb id) = 1 by omega)]
theorem worse_ok : ∀ a, a ≤ 2 → ∀ b, b ≤ 2 → ∀ M : Mem, f_X6_worse (nI a) (nI b) M = some (nI (wr a b), M) := by
  intro a ha b hb M
  have h3 : a = 0 ∨ a = 1 ∨ a = 2 := by omega
  have h4 : b = 0 ∨ b = 1 ∨ b = 2 := by omega
  rcases h3 with rfl | rfl | rfl <;> rcases h4 with rfl | rfl | rfl <;> rfl
theorem wv_snoc (l : List T) (u : T) : wv (l ++ [u]) = wr (wv l) (vf u) := by
  unfold wv vf wr
  rw [List.any_append, List.all_append]
  simp only [List.any_cons, List.any_nil, List.all_cons, List.all_nil, Bool.or_false, Bool.and_true]
  by_cases h0 : kind u = 0
  · have : (kind u == 0) = true := by simpa using h0
    rw [this, if_pos h0]
    simp
  · have e0 : (kind u == 0) = false := by simpa using h0
    rw [e0, if_neg h0, Bool.or_false]
    by_cases h1 : kind u = 1
    · have : (kind u == 1) = true := by simpa using h1
      rw [this, if_pos h1, Bool.and_true]
      cases l.any (fun t => kind t == 0) <;> cases l.all (fun t => kind t == 1) <;> rfl
    · have : (kind u == 1) = false := by simpa using h1
      rw [this, if_neg h1, Bool.and_false]
      cases l.any (fun t => kind t == 0) <;> cases l.all (fun t => kind t == 1) <;> rfl
theorem wv_zero {l m : List T} (h : wv l = 0) : wv (l ++ m) = 0 := by
  have : (l.any fun t => kind t == 0) = true := by
    unfold wv at h
    by_cases q : (l.any fun t => kind t == 0) = true
    · exact q
    · rw [if_neg q] at h
      split at h <;> omega
  unfold wv
  rw [List.any_append, this]
  rfl
def wb (w : Wsh) (set : Nat) : Nat := if w.2.1 = 2 then wv ((wP w).map (rew set)) else w.2.1
theorem wb_le {w : Wsh} (h : okW w) (set : Nat) : wb w set ≤ 2 := by
  unfold wb
  split
  · exact wv_le _
  · exact h.1
def FQ (M M' : Mem) : Prop := ∀ c, c = 0 ∨ (16 ≤ c ∧ c ≠ 18) → M' c = M c
theorem FQ.rfl' (M : Mem) : FQ M M := fun _ _ => rfl
theorem FQ.tr {A B C : Mem} (h : FQ A B) (g : FQ B C) : FQ A C := fun c hc => by rw [g c hc, h c hc]
theorem RCw.q {M M' : Mem} {cw : Nat} {w : Wsh} (h : RCw M cw w) (hx : 20 ≤ cw) (f : FQ M M') : RCw M' cw w := h.congr (f _ (by omega)) (f _ (by omega)) (f _ (by omega))
theorem vb_18 {cw : Nat} {w : Wsh} (hx : 20 ≤ cw) (hw : okW w) {set : Nat} (hset : set < 64) : ∀ (n p : Nat) (M : Mem) (tb : List T), p ≤ (wP w).length → (wP w).length - p < n → FT M tb → RCw M cw w → ∃ (M' : Mem) (tb' : List T), f_X6_verdictBehind_18 n cw (nI set) (nI (wv (((wP w).take p).map (rew set)))) (nI p) M = some (nI (wv ((wP w).map (rew set))), M') ∧ FT M' tb' ∧ FQ M M' := by
  have h8 := hw.2.2.2.1
  intro n
  induction n with
  | zero => intro p M tb _ h; omega
  | succ n ih =>
    intro p M tb h1 h2 hF hR
    have hv := wv_le (((wP w).take p).map (rew set))
    rw [f_X6_verdictBehind_18, hR.2.2.1]
    unfold f_X6_verdictBehind_64
    by_cases hp : p < (wP w).length
    · rw [if_pos ((nlt (by omega) (by omega)).mpr hp)]
      by_cases h0 : wv (((wP w).take p).map (rew set)) = 0
      · rw [h0, if_pos rfl]
        refine ⟨M, tb, ?_, hF, FQ.rfl' M⟩
        have := wv_zero (m := ((wP w).drop p).map (rew set)) h0
        rw [← List.map_append, List.take_append_drop] at this
        rw [this]
      · obtain ⟨t1, t2⟩ := hw.2.2.2.2 (wP w)[p] (List.getElem_mem hp)
        rw [if_neg (fun q => h0 ((neq (by omega) (by omega)).mp q))]
        obtain ⟨id, M1, tb1, e1, f1, s1, i1, d1, o1⟩ := loadAlone_ok hx (show p < 8 by omega) hF t1 t2 (hR.2.2.2.2.2.2 p hp)
        obtain ⟨y, M2, tc, e2, f2, i2, d2, o2⟩ := behind_sub f1 hset i1 t2 s1
        rw [e1, Option.bind_some, e2, Option.bind_some, formV_ok f2.1 i2 f2.2.1, Option.bind_some]
        dsimp only
        rw [d2, d1, worse_ok _ hv _ (vf_le _), Option.bind_some, nI_add]
        have e : wr (wv (((wP w).take p).map (rew set))) (vf (rew set (wP w)[p])) = wv (((wP w).take (p + 1)).map (rew set)) := by
          rw [List.take_succ_eq_append_getElem hp, List.map_append, ← wv_snoc]; rfl
        rw [e]
        have o12 : FQ M M2 := fun c hc => by rw [o2 c (by omega), o1 c (by omega)]
        obtain ⟨M', tb', e3, f3, o3⟩ := ih (p + 1) M2 _ (by omega) (by omega) f2 (hR.q hx o12)
        exact ⟨M', tb', e3, f3, o12.tr o3⟩
    · have : p = (wP w).length := by omega
      subst this
      rw [if_neg (fun q => hp ((nlt (by omega) (by omega)).mp q)), List.take_length]
      exact ⟨M, tb, rfl, hF, FQ.rfl' M⟩
theorem verdictBehind_ok {M : Mem} {tb : List T} {cw : Nat} {w : Wsh} (hx : 20 ≤ cw) (hw : okW w) (hF : FT M tb) (hR : RCw M cw w) {set : Nat} (hset : set < 64) : ∃ (M' : Mem) (tb' : List T), f_X6_verdictBehind cw (nI set) M = some (nI (wb w set), M') ∧ FT M' tb' ∧ FQ M M' := by
  have h8 := hw.2.2.2.1
  have h2 := hw.1
  unfold f_X6_verdictBehind wb
  rw [hR.2.1]
  simp (disch := omega) only [neq]
  by_cases q : w.2.1 = 2
  · rw [if_pos q, if_pos q]
    have e := vb_18 hx hw hset fuelN 0 M tb (Nat.zero_le _) (by unfold fuelN; omega) hF hR
    rw [List.take_zero] at e
    exact e
  · rw [if_neg q, if_neg q]
    exact ⟨M, tb, rfl, hF, FQ.rfl' M⟩
theorem nI_xor (a b : Nat) : nI a ^^^ nI b = nI (a ^^^ b) := by
  apply Int32.toBitVec_inj.mp
  rw [Int32.toBitVec_xor, nI_toBV, nI_toBV, nI_toBV]
  apply BitVec.eq_of_toNat_eq
  simp [Nat.xor_mod_two_pow]
def blm (w : Wsh) (set : Nat) : Nat → Nat
  | 0 => 0
  | n + 1 => blm w set n ||| (if wb w (set ^^^ 2 ^ n) = 0 then 0 else 2 ^ n)
theorem blm_succ (w : Wsh) (set n : Nat) : blm w set (n + 1) = blm w set n ||| (if wb w (set ^^^ 2 ^ n) = 0 then 0 else 2 ^ n) := rfl
theorem xor64 {set n : Nat} (h : set < 64) (hn : n < 6) : set ^^^ 2 ^ n < 64 := Nat.xor_lt_two_pow (n := 6) h (Nat.pow_lt_pow_right (by omega) hn)
theorem blame_5 {cw : Nat} {w : Wsh} (hx : 20 ≤ cw) (hw : okW w) {set : Nat} (hset : set < 64) : ∀ (n k : Nat) (M : Mem) (tb : List T), k ≤ 6 → 6 - k < n → FT M tb → RCw M cw w → ∃ (M' : Mem) (tb' : List T), f_X6_signsToBlame_5 n cw (nI set) (nI (blm w set k)) (nI k) M = some (nI (blm w set 6), M') ∧ FT M' tb' ∧ FQ M M' := by
  intro n
  induction n with
  | zero => intro k M tb _ h; omega
  | succ n ih =>
    intro k M tb h1 h2 hF hR
    rw [f_X6_signsToBlame_5]
    unfold f_X6_signsToBlame_33
    by_cases hk : k < 6
    · rw [if_pos ((nlt (by omega) (by omega)).mpr hk), shl1 k (by omega), nI_xor]
      obtain ⟨M1, tb1, e1, f1, o1⟩ := verdictBehind_ok hx hw hF hR (xor64 hset hk)
      have hle := wb_le hw (set ^^^ 2 ^ k)
      rw [e1, Option.bind_some, nI_add, nI_or]
      have hs := blm_succ w set k
      obtain ⟨M', tb', e2, f2, o2⟩ := ih (k + 1) M1 tb1 (by omega) (by omega) f1 (hR.q hx o1)
      rw [hs] at e2
      simp (disch := omega) only [neq]
      by_cases q : wb w (set ^^^ 2 ^ k) = 0
      · rw [if_pos q]
        rw [if_pos q, Nat.or_zero] at e2
        exact ⟨M', tb', e2, f2, o1.tr o2⟩
      · rw [if_neg q]
        rw [if_neg q] at e2
        exact ⟨M', tb', e2, f2, o1.tr o2⟩
    · have : k = 6 := by omega
      subst this
      rw [if_neg (by decide)]
      exact ⟨M, tb, rfl, hF, FQ.rfl' M⟩
theorem blame_ok {M : Mem} {tb : List T} {cw : Nat} {w : Wsh} (hx : 20 ≤ cw) (hw : okW w) (hF : FT M tb) (hR : RCw M cw w) {set : Nat} (hset : set < 64) : ∃ (M' : Mem) (tb' : List T), f_X6_signsToBlame cw (nI set) M = some (nI (blm w set 6), M') ∧ FT M' tb' ∧ FQ M M' :=
  blame_5 hx hw hset fuelN 0 M tb (by omega) (by unfold fuelN; omega) hF hR
/-- the verdict if the run ended now -/
def wie (w : Wsh) : Nat := if w.2.1 = 2 then one ((wP w).all tae) else w.2.1
theorem vie_15 {cw : Nat} {w : Wsh} (hx : 20 ≤ cw) (hw : okW w) : ∀ (n p : Nat) (M : Mem) (tb : List T), p ≤ (wP w).length → (wP w).length - p < n → FT M tb → RCw M cw w → ((wP w).take p).all tae = true → ∃ (M' : Mem) (tb' : List T), f_X6_verdictIfEnded_15 n cw (nI p) M = some (nI (one ((wP w).all tae)), M') ∧ FT M' tb' ∧ FQ M M' := by
  have h8 := hw.2.2.2.1
  intro n
  induction n with
  | zero => intro p M tb _ h; omega
  | succ n ih =>
    intro p M tb h1 h2 hF hR hall
    rw [f_X6_verdictIfEnded_15, hR.2.2.1]
    by_cases hp : p < (wP w).length
    · obtain ⟨t1, t2⟩ := hw.2.2.2.2 (wP w)[p] (List.getElem_mem hp)
      obtain ⟨id, M1, tb1, e1, f1, s1, i1, d1, o1⟩ := loadAlone_ok hx (show p < 8 by omega) hF t1 t2 (hR.2.2.2.2.2.2 p hp)
      have aa := (f1.2.2.2.2.2.1 id i1).2.2.2.2.1
      have hl1 := f1.2.1
      have o1' : FQ M M1 := fun c hc => o1 c (by omega)
      rw [if_pos ((nlt (by omega) (by omega)).mpr hp), e1, Option.bind_some]
      dsimp only
      rw [mrd_n (by omega) (by omega), Option.bind_some, aa, d1]
      cases ht : tae (wP w)[p] with
      | false =>
        rw [bI_f, if_pos rfl]
        refine ⟨M1, tb1, ?_, f1, o1'⟩
        have : (wP w).all tae = false := by
          cases q : (wP w).all tae
          · rfl
          · have := List.all_eq_true.mp q _ (List.getElem_mem hp)
            rw [ht] at this; cases this
        rw [this]
        rfl
      | true =>
        rw [bI_t, if_neg (by decide), nI_add]
        obtain ⟨M', tb', e3, f3, o3⟩ := ih (p + 1) M1 tb1 (by omega) (by omega) f1 (hR.q hx o1') (by
          rw [List.take_succ_eq_append_getElem hp, List.all_append, hall]
          simp [ht])
        exact ⟨M', tb', e3, f3, o1'.tr o3⟩
    · have : p = (wP w).length := by omega
      subst this
      rw [List.take_length] at hall
      rw [if_neg (fun q => hp ((nlt (by omega) (by omega)).mp q)), hall]
      exact ⟨M, tb, rfl, hF, FQ.rfl' M⟩
theorem verdictIfEnded_ok {M : Mem} {tb : List T} {cw : Nat} {w : Wsh} (hx : 20 ≤ cw) (hw : okW w) (hF : FT M tb) (hR : RCw M cw w) : ∃ (M' : Mem) (tb' : List T), f_X6_verdictIfEnded cw M = some (nI (wie w), M') ∧ FT M' tb' ∧ FQ M M' := by
  have h8 := hw.2.2.2.1
  have h2 := hw.1
  unfold f_X6_verdictIfEnded wie
  rw [hR.2.1]
  simp (disch := omega) only [neq]
  by_cases q : w.2.1 = 2
  · rw [if_pos q, if_pos q]
    exact vie_15 hx hw fuelN 0 M tb (Nat.zero_le _) (by unfold fuelN; omega) hF hR rfl
  · rw [if_neg q, if_neg q]
    exact ⟨M, tb, rfl, hF, FQ.rfl' M⟩
/-! what a wish can bear -/
theorem rew_bits {a b : Nat} : ∀ t : T, AR t = true → (∀ s, s < 6 → (sgn t).testBit s = true → a.testBit s = b.testBit s) → rew a t = rew b t := by
  intro t
  induction t using T_ind with
  | h k ts ih =>
    intro hA h
    have hAk := ((AR_nd _ _).mp hA).2
    have hmap : 16 ≤ k → ts.map (rew a) = ts.map (rew b) := fun hk => by
      apply List.map_congr_left
      intro x hx
      refine ih x hx (hAk x hx) (fun s hs hb => h s hs ?_)
      rw [sgn_nd hk, fold_bit, Nat.zero_testBit, Bool.false_or, List.any_eq_true]
      exact ⟨sgn x, List.mem_map_of_mem hx, hb⟩
    rw [rew_nd, rew_nd]
    rcases Nat.lt_or_ge k 16 with hk | hk
    · unfold rewN
      rw [if_pos hk, if_pos hk]
      have hsg : sgn (nd k ts) = if k < 4 then 0 else 2 ^ ((k - 4) % 6) := by
        unfold sgn
        rw [tfold_nd]
        split
        · rfl
        · first | rfl | rw [if_pos hk]
      rw [hsg] at h
      unfold rewL
      by_cases h2 : k < 2
      · rw [if_pos h2, if_pos h2]
      · rw [if_neg h2, if_neg h2]
        by_cases h3 : k = 2
        · rw [if_pos h3, if_pos h3]
        · rw [if_neg h3, if_neg h3]
          by_cases h4 : k = 3
          · rw [if_pos h4, if_pos h4]
          · rw [if_neg h4, if_neg h4]
            rw [if_neg (show ¬ k < 4 by omega)] at h
            by_cases h10 : k < 10
            · rw [if_pos h10, if_pos h10, h (k - 4) (by omega) (by rw [show (k - 4) % 6 = k - 4 by omega, Nat.testBit_two_pow_self])]
            · rw [if_neg h10, if_neg h10, h (k - 10) (by omega) (by rw [show (k - 4) % 6 = k - 10 by omega, Nat.testBit_two_pow_self])]
    · rw [hmap hk]
      unfold rewN
      rw [if_neg (show ¬ k < 16 by omega), if_neg (show ¬ k < 16 by omega)]
theorem rew_and {t : T} (h : AR t = true) (set : Nat) : rew (set &&& sgn t) t = rew set t := rew_bits t h (fun s _ hb => by rw [Nat.testBit_and, hb, Bool.and_true])
theorem and_le64 {a b : Nat} (h : a < 64) : a &&& b < 64 ∧ a &&& b ≤ a := ⟨Nat.lt_of_le_of_lt Nat.and_le_left h, Nat.and_le_left⟩
theorem and_and (a b : Nat) : (a &&& b) &&& b = a &&& b := by rw [Nat.and_assoc, Nat.and_self]
/-- the outcomes of the parts so far, set by set -/
def OC (M : Mem) (l : List T) : Prop := ∀ e, e < 64 → M 26 e = nI (wv (l.map (rew e)))
theorem aop_30 {tb : List T} {t : T} {id : Nat} (hA : AR t = true) (hs : size t ≤ 120) (hid : id < 16 + tb.length) (hd : dn tb id = t) (hsub : ∀ x ∈ tb, x ∈ subl t) {l : List T} :
    ∀ (n e : Nat) (M : Mem), e ≤ 64 → 64 - e < n → FT M tb → (∀ j, j < e → j &&& sgn t = j → M 27 j = nI (vf (rew j t))) → (∀ j, j < 64 → M 26 j = if j < e then nI (wv ((l ++ [t]).map (rew j))) else nI (wv (l.map (rew j)))) →
    ∃ (M' : Mem), f_X6_addOutcomesOfPart_30 n (nI id) (nI (sgn t)) (nI (16 + tb.length)) (nI e) M = some (nI 0, M') ∧ FT M' tb ∧ OC M' (l ++ [t]) ∧ ∀ c, c = 0 ∨ (16 ≤ c ∧ c ≠ 18 ∧ c ≠ 26 ∧ c ≠ 27) → M' c = M c := by
  have hsl := sgn_lt t hA
  intro n
  induction n with
  | zero => intro e M _ h; omega
  | succ n ih =>
    intro e M h1 h2 hF h27 h26
    have hl := hF.2.1
    rw [f_X6_addOutcomesOfPart_30]
    unfold f_X6_addOutcomesOfPart_76
    by_cases he : e < 64
    · rw [if_pos ((nlt (by omega) (by omega)).mpr he), nI_and]
      obtain ⟨a1, a2⟩ := and_le64 (b := sgn t) he
      -- the second half of the round
      have half : ∀ M1 : Mem, FT M1 tb → M1 26 = M 26 → (∀ j, j < e + 1 → j &&& sgn t = j → M1 27 j = nI (vf (rew j t))) → (∀ c, c = 0 ∨ (16 ≤ c ∧ c ≠ 18 ∧ c ≠ 26 ∧ c ≠ 27) → M1 c = M c) → ∃ (M' : Mem), ((mrd M1 26 64 (nI e)).bind fun v1 => (mrd M1 27 64 (nI (e &&& sgn t))).bind fun v2 => (f_X6_worse v1 v2 M1).bind fun q3 => (mst q3.2 26 64 (nI e) q3.1).bind fun M4 => f_X6_addOutcomesOfPart_30 n (nI id) (nI (sgn t)) (nI (16 + tb.length)) (nI e + nI 1) M4) = some (nI 0, M') ∧ FT M' tb ∧ OC M' (l ++ [t]) ∧ ∀ c, c = 0 ∨ (16 ≤ c ∧ c ≠ 18 ∧ c ≠ 26 ∧ c ≠ 27) → M' c = M c := by
        intro M1 f1 g26 g27 o1
        have z1 : M1 26 e = nI (wv (l.map (rew e))) := by rw [g26, h26 e he, if_neg (Nat.lt_irrefl _)]
        have z2 : M1 27 (e &&& sgn t) = nI (vf (rew e t)) := by rw [g27 _ (by omega) (and_and _ _), rew_and hA]
        rw [mrd_n he (by omega), Option.bind_some, z1, mrd_n (by omega) (by omega), Option.bind_some, z2, worse_ok _ (wv_le _) _ (vf_le _), Option.bind_some]
        dsimp only
        rw [mst_n he (by omega), Option.bind_some, nI_add]
        have hsn : wr (wv (l.map (rew e))) (vf (rew e t)) = wv ((l ++ [t]).map (rew e)) := by
          rw [List.map_append, ← wv_snoc]; rfl
        rw [hsn]
        obtain ⟨M', e3, f3, p3, o3⟩ := ih (e + 1) (mwr M1 26 e (nI (wv ((l ++ [t]).map (rew e))))) (by omega) (by omega) (f1.congr (fun c _ _ => mwr_ne _ _ _ (by omega))) (fun j hj hjs => by rw [mwr_off _ _ _ (by omega)]; exact g27 j hj hjs) (fun j hj => by
          by_cases q : j = e
          · subst q
            rw [mwr_at, if_pos (by omega)]
          · rw [mwr_in _ q, g26, h26 j hj]
            by_cases p : j < e
            · rw [if_pos p, if_pos (by omega)]
            · rw [if_neg p, if_neg (by omega)])
        exact ⟨M', e3, f3, p3, fun c hc => by rw [o3 c hc, mwr_ne _ _ _ (by omega), o1 c hc]⟩
      by_cases hin : e &&& sgn t = e
      · rw [if_pos (by rw [hin])]
        obtain ⟨y, M2, tc, e2, f2, i2, d2, o2⟩ := behind_sub hF he hid hs hsub
        rw [e2, Option.bind_some, formV_ok f2.1 i2 f2.2.1, Option.bind_some]
        dsimp only
        rw [mst_n he (by omega), Option.bind_some, d2, hd]
        have hl2 := f2.2.1
        obtain ⟨M3, e3, f3, o3⟩ := release_ok (M := mwr M2 27 e (nI (vf (rew e t)))) (f2.congr (fun c _ _ => mwr_ne _ _ _ (by omega))) (mark := 16 + tb.length) (by omega) (by omega)
        rw [show 16 + tb.length - 16 = tb.length by omega, List.take_left] at f3
        rw [e3, Option.bind_some]
        exact half M3 f3 (by rw [o3 26 (by omega) (by omega), mwr_ne _ _ _ (by omega), o2 26 (by omega)]) (fun j hj hjs => by
          rw [o3 27 (by omega) (by omega)]
          by_cases q : j = e
          · subst q; rw [mwr_at]
          · rw [mwr_in _ q, o2 27 (by omega)]; exact h27 j (by omega) hjs) (fun c hc => by rw [o3 c (by omega) (by omega), mwr_ne _ _ _ (by omega), o2 c (by omega)])
      · rw [if_neg (fun q => hin ((neq (by omega) (by omega)).mp q))]
        exact half M hF rfl (fun j hj hjs => by
          by_cases q : j = e
          · subst q; exact absurd hjs hin
          · exact h27 j (by omega) hjs) (fun _ _ => rfl)
    · have : e = 64 := by omega
      subst this
      rw [if_neg (by decide)]
      exact ⟨M, rfl, hF, fun j hj => by rw [h26 j hj, if_pos hj], fun _ _ => rfl⟩
theorem aop_ok {M : Mem} {tb : List T} {cw p : Nat} {t : T} {l : List T} (hx : 28 ≤ cw) (hp : p < 8) (h : FT M tb) (hA : AR t = true) (hs : size t ≤ 120) (hc : CP M cw p t) (hO : OC M l) :
    ∃ (M' : Mem) (tb' : List T), f_X6_addOutcomesOfPart cw (nI p) M = some (nI 0, M') ∧ FT M' tb' ∧ OC M' (l ++ [t]) ∧ ∀ c, c = 0 ∨ (16 ≤ c ∧ c ≠ 18 ∧ c ≠ 26 ∧ c ≠ 27) → M' c = M c := by
  obtain ⟨id, M1, tb1, e1, f1, s1, i1, d1, o1⟩ := loadAlone_ok (by omega) hp h hA hs hc
  have aa := (f1.2.2.2.2.2.1 id i1).2.2.2.1
  have hl1 := f1.2.1
  unfold f_X6_addOutcomesOfPart
  rw [e1, Option.bind_some]
  dsimp only
  rw [mrd_n (by omega) (by omega), Option.bind_some, aa, d1, f1.2.2.2.1]
  obtain ⟨M', e2, f2, p2, o2⟩ := aop_30 (l := l) hA hs i1 d1 s1 fuelN 0 M1 (by omega) (by unfold fuelN; omega) f1 (fun j hj => by omega) (fun j hj => by rw [o1 26 (by omega), hO j hj, if_neg (by omega)])
  exact ⟨M', tb1, e2, f2, p2, fun c hc => by rw [o2 c hc, o1 c (by omega)]⟩
def FO (M M' : Mem) : Prop := ∀ c, c = 0 ∨ (16 ≤ c ∧ c ≠ 18 ∧ c ≠ 26 ∧ c ≠ 27) → M' c = M c
theorem fo_46 {cw : Nat} {w : Wsh} (hx : 28 ≤ cw) (hw : okW w) : ∀ (n p : Nat) (M : Mem) (tb : List T), p ≤ (wP w).length → (wP w).length - p < n → FT M tb → RCw M cw w → OC M ((wP w).take p) → ∃ (M' : Mem) (tb' : List T), f_X6_findOutcomes_46 n cw (nI p) M = some (nI 0, M') ∧ FT M' tb' ∧ OC M' (wP w) ∧ FO M M' := by
  have h8 := hw.2.2.2.1
  intro n
  induction n with
  | zero => intro p M tb _ h; omega
  | succ n ih =>
    intro p M tb h1 h2 hF hR hO
    rw [f_X6_findOutcomes_46, hR.2.2.1]
    unfold f_X6_findOutcomes_66
    by_cases hp : p < (wP w).length
    · obtain ⟨t1, t2⟩ := hw.2.2.2.2 (wP w)[p] (List.getElem_mem hp)
      obtain ⟨M1, tb1, e1, f1, p1, o1⟩ := aop_ok hx (show p < 8 by omega) hF t1 t2 (hR.2.2.2.2.2.2 p hp) hO
      rw [if_pos ((nlt (by omega) (by omega)).mpr hp), e1, Option.bind_some, nI_add]
      rw [← List.take_succ_eq_append_getElem hp] at p1
      obtain ⟨M', tb', e2, f2, p2, o2⟩ := ih (p + 1) M1 tb1 (by omega) (by omega) f1 (hR.congr (o1 _ (by omega)) (o1 _ (by omega)) (o1 _ (by omega))) p1
      exact ⟨M', tb', e2, f2, p2, fun c hc => by rw [o2 c hc, o1 c hc]⟩
    · have : p = (wP w).length := by omega
      subst this
      rw [if_neg (fun q => hp ((nlt (by omega) (by omega)).mp q))]
      rw [List.take_length] at hO
      exact ⟨M, tb, rfl, hF, hO, fun _ _ => rfl⟩
theorem fo_2 {cw : Nat} {w : Wsh} (hx : 28 ≤ cw) (hw : okW w) : ∀ (n e : Nat) (M : Mem) (tb : List T), e ≤ 64 → 64 - e < n → FT M tb → RCw M cw w → (∀ j, j < e → M 26 j = nI (if w.2.1 = 2 then 1 else w.2.1)) → ∃ (M' : Mem) (tb' : List T), f_X6_findOutcomes_2 n cw (nI e) M = some (nI 0, M') ∧ FT M' tb' ∧ (∀ j, j < 64 → M' 26 j = nI (wb w j)) ∧ FO M M' := by
  have h2v := hw.1
  have h8 := hw.2.2.2.1
  intro n
  induction n with
  | zero => intro e M tb _ h; omega
  | succ n ih =>
    intro e M tb h1 h2 hF hR hM
    rw [f_X6_findOutcomes_2, hR.2.1]
    unfold f_X6_findOutcomes_29 f_X6_findOutcomes_66
    by_cases he : e < 64
    · have go : ∀ v : Nat, v = (if w.2.1 = 2 then 1 else w.2.1) → ∃ (M' : Mem) (tb' : List T), ((mst M 26 64 (nI e) (nI v)).bind fun M1 => f_X6_findOutcomes_2 n cw (nI e + nI 1) M1) = some (nI 0, M') ∧ FT M' tb' ∧ (∀ j, j < 64 → M' 26 j = nI (wb w j)) ∧ FO M M' := by
        intro v hv
        rw [mst_n he (by omega), Option.bind_some, nI_add]
        obtain ⟨M', tb', e2, f2, p2, o2⟩ := ih (e + 1) (mwr M 26 e (nI v)) tb (by omega) (by omega) (hF.congr (fun c _ _ => mwr_ne _ _ _ (by omega))) (hR.congr (mwr_ne _ _ _ (by omega)) (mwr_ne _ _ _ (by omega)) (mwr_ne _ _ _ (by omega))) (fun j hj => by
          by_cases q : j = e
          · subst q; rw [mwr_at, hv]
          · rw [mwr_in _ q]; exact hM j (by omega))
        exact ⟨M', tb', e2, f2, p2, fun c hc => by rw [o2 c hc, mwr_ne _ _ _ (by omega)]⟩
      rw [if_pos ((nlt (by omega) (by omega)).mpr he)]
      simp (disch := omega) only [neq]
      by_cases q : w.2.1 = 2
      · rw [if_pos q]
        exact go 1 (by rw [if_pos q])
      · rw [if_neg q]
        exact go w.2.1 (by rw [if_neg q])
    · have : e = 64 := by omega
      subst this
      rw [if_neg (by decide)]
      simp (disch := omega) only [neq]
      by_cases q : w.2.1 = 2
      · rw [if_pos q]
        simp only [q, if_true] at hM
        obtain ⟨M', tb', e2, f2, p2, o2⟩ := fo_46 hx hw fuelN 0 M tb (Nat.zero_le _) (by unfold fuelN; omega) hF hR (fun j hj => hM j hj)
        refine ⟨M', tb', e2, f2, fun j hj => ?_, o2⟩
        unfold wb
        rw [if_pos q]
        exact p2 j hj
      · rw [if_neg q]
        refine ⟨M, tb, rfl, hF, fun j hj => ?_, fun _ _ => rfl⟩
        unfold wb
        rw [if_neg q, hM j hj, if_neg q]
theorem findOutcomes_ok {M : Mem} {tb : List T} {cw : Nat} {w : Wsh} (hx : 28 ≤ cw) (hw : okW w) (hF : FT M tb) (hR : RCw M cw w) : ∃ (M' : Mem) (tb' : List T), f_X6_findOutcomes cw M = some (nI 0, M') ∧ FT M' tb' ∧ (∀ j, j < 64 → M' 26 j = nI (wb w j)) ∧ FO M M' :=
  fo_2 hx hw fuelN 0 M tb (by omega) (by unfold fuelN; omega) hF hR (fun j hj => by omega)
