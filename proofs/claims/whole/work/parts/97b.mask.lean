/-! the model: its row, and questions about one wish -/
def RMw (f : Nat → Int32) (k : Nat) (w : Wsh) : Prop := f (48 + 8 * k) = bI w.1 ∧ f (48 + 8 * k + 1) = nI w.2.1 ∧ f (48 + 8 * k + 2) = w.2.2.1 ∧ f (48 + 8 * k + 3) = w.2.2.2.1 ∧ f (48 + 8 * k + 4) = nI w.2.2.2.2.1 ∧ f (48 + 8 * k + 5) = nI (wP w).length ∧ ∀ p (h : p < (wP w).length), PR f (bw k p) (wP w)[p]
def RM (f : Nat → Int32) (s : Sta) : Prop := f 0 = nI s.2.1.length ∧ f 1 = bI s.1 ∧ f 2 = nI s.2.2.length ∧ (∀ i (h : i < s.2.1.length), f (4 + i) = nI s.2.1[i]) ∧ ∀ k (h : k < s.2.2.length), RMw f k s.2.2[k]
theorem RMw.congr {f f' : Nat → Int32} {k : Nat} {w : Wsh} (h : RMw f k w) (hk : k < 8) (hw : okW w) (h0 : ∀ j, j < 6 → f' (48 + 8 * k + j) = f (48 + 8 * k + j)) (h1 : ∀ i, bw k 0 ≤ i → i < bw k 0 + 484 * 8 → f' i = f i) : RMw f' k w := by
  obtain ⟨a, b, c, d, e, g, p⟩ := h
  have h00 := h0 0 (by omega)
  rw [Nat.add_zero] at h00
  refine ⟨by rw [h00]; exact a, by rw [h0 1 (by omega)]; exact b, by rw [h0 2 (by omega)]; exact c, by rw [h0 3 (by omega)]; exact d, by rw [h0 4 (by omega)]; exact e, by rw [h0 5 (by omega)]; exact g, fun q hq => ?_⟩
  have h8 := hw.2.2.2.1
  refine (p q hq).congr (hw.2.2.2.2 _ (List.getElem_mem hq)).2 (fun i h2 h3 => h1 i ?_ ?_)
  · unfold bw at h2 h3 ⊢; omega
  · unfold bw at h2 h3 ⊢; omega
theorem RM.congr {f f' : Nat → Int32} {s : Sta} (h : RM f s) (hs : okS s) (hf : ∀ i, i < 31088 → f' i = f i) : RM f' s := by
  obtain ⟨a, b, c, d, e⟩ := h
  have h8 := hs.2.2.1
  have h40 := hs.1
  refine ⟨by rw [hf 0 (by omega)]; exact a, by rw [hf 1 (by omega)]; exact b, by rw [hf 2 (by omega)]; exact c, fun i hi => by rw [hf _ (by omega)]; exact d i hi, fun k hk => (e k hk).congr (by omega) (hs.2.2.2 _ (List.getElem_mem hk)) (fun j hj => hf _ (by omega)) (fun i h1 h2 => hf i ?_)⟩
  unfold bw at h2
  omega
theorem w_ok (k : Nat) (M : Mem) : f_X7_w (nI k) M = some (nI (48 + 8 * k), M) := by
  unfold f_X7_w
  rw [nmul, nI_add]
theorem lt_toInt {x y : Int32} : (x < y) ↔ x.toInt < y.toInt := Int32.lt_iff_toInt_lt
theorem in_ok (x : Int32) {n : Nat} (hn : n < 1000000) (M : Mem) : (∃ k, k < n ∧ x = nI k ∧ f_X7_in x (nI 0) (nI n - nI 1) M = some (bI true, M)) ∨ ((∀ k, k < n → x ≠ nI k) ∧ f_X7_in x (nI 0) (nI n - nI 1) M = some (bI false, M)) := by
  unfold f_X7_in f_X7_in_14 f_X7_in_15
  rw [mrz_0, mrz_1]
  have hm : (nI n - nI 1).toInt = (n : Int) - 1 := pk_sub_toInt (by omega) (by omega)
  rcases pk_ix x (n := n) (by omega) with q | q | ⟨k, hk, rfl⟩
  · rw [if_pos (show x < nI 0 from q)]
    refine Or.inr ⟨fun k hk e => ?_, rfl⟩
    subst e
    exact nI_pos (by omega) q
  · have b := Int32.le_iff_toInt_le.mp q
    rw [nI_toInt (by omega)] at b
    have h1 : ¬ x < nI 0 := fun p => by
      have a := lt_toInt.mp p
      rw [nI_toInt (by omega)] at a
      omega
    have h3 : nI n - nI 1 < x := lt_toInt.mpr (by omega)
    rw [if_neg h1, if_pos h3]
    refine Or.inr ⟨fun k hk e => ?_, rfl⟩
    subst e
    rw [nI_toInt (by omega)] at b
    omega
  · have h3 : ¬ nI n - nI 1 < nI k := fun p => by
      have a := lt_toInt.mp p
      rw [nI_toInt (by omega)] at a
      omega
    rw [if_neg (neg_n (by omega)), if_neg h3]
    exact Or.inl ⟨k, hk, rfl, rfl⟩
theorem bI_1 (a : Bool) : (bI a = nI 1) = (a = true) := by apply propext; cases a <;> decide
theorem isThere_ok {M : Mem} {s : Sta} (h : RM (M 219) s) (hs : okS s) (x : Int32) : (∃ k, fndP s x k ∧ f_X7_isThere x M = some (bI true, M)) ∨ ((∀ k, ¬ fndP s x k) ∧ f_X7_isThere x M = some (bI false, M)) := by
  obtain ⟨-, -, h2, -, h5⟩ := h
  have h8 := hs.2.2.1
  unfold f_X7_isThere f_X7_isThere_35 f_X7_isThere_36
  rw [mrd_n (by omega) (by omega), Option.bind_some, h2]
  rcases in_ok x (n := s.2.2.length) (by omega) M with ⟨k, hk, rfl, e⟩ | ⟨hno, e⟩
  · rw [e, Option.bind_some]
    dsimp only
    rw [bI_t, if_neg (by decide), w_ok, Option.bind_some]
    dsimp only
    rw [nI_add, mrd_n (by omega) (by omega), Option.bind_some, Nat.add_zero, (h5 k hk).1]
    simp only [bI_1, mrz_0, mrz_1]
    cases q : s.2.2[k].1 with
    | true => exact Or.inl ⟨k, ⟨rfl, hk, q⟩, by rw [if_pos rfl]; rfl⟩
    | false =>
      refine Or.inr ⟨fun j hj => ?_, by rw [if_neg (by decide)]⟩
      obtain ⟨a, b, c⟩ := hj
      have := (neq (by omega) (by omega)).mp a
      subst this
      rw [q] at c; cases c
  · rw [e, Option.bind_some]
    dsimp only
    rw [bI_f, if_pos rfl, mrz_0]
    exact Or.inr ⟨fun k hk => by
      obtain ⟨a, b, -⟩ := hk
      exact hno k b a, rfl⟩
def thk (s : Sta) (k : Nat) : Bool := match s.2.2[k]? with | some w => w.1 | none => false
theorem thk_in {s : Sta} {k : Nat} (h : k < s.2.2.length) : thk s k = s.2.2[k].1 := by unfold thk; rw [List.getElem?_eq_getElem h]
theorem isThere_k {M : Mem} {s : Sta} (h : RM (M 219) s) (hs : okS s) {k : Nat} (hk : k < 1000) : f_X7_isThere (nI k) M = some (bI (thk s k), M) := by
  have h8 := hs.2.2.1
  rcases isThere_ok h hs (nI k) with ⟨j, ⟨a, b, c⟩, e⟩ | ⟨hno, e⟩
  · have := (neq (by omega) (by omega)).mp a
    subst this
    rw [e, thk_in b, c]
  · rw [e]
    have : thk s k = false := by
      unfold thk
      cases q : s.2.2[k]? with
      | none => rfl
      | some w =>
        obtain ⟨hl, he⟩ := List.getElem?_eq_some_iff.mp q
        cases q2 : w.1 with
        | false => exact q2
        | true => exact absurd ⟨rfl, hl, by rw [he, q2]⟩ (hno k)
    rw [this]
theorem verdict_ok {M : Mem} {k : Nat} {w : Wsh} (hk : k < 8) (h : RMw (M 219) k w) : f_X7_verdict (nI k) M = some (nI w.2.1, M) := by
  unfold f_X7_verdict
  rw [w_ok, Option.bind_some]
  dsimp only
  rw [nI_add, mrd_n (by omega) (by omega), Option.bind_some, h.2.1]
theorem lf_kind {t : T} (h : AR t = true) {i : Nat} (hi : i < 16) : (t = lf i) = (kind t = i) := by
  apply propext
  constructor
  · intro e; rw [e, kind_lf]
  · intro e; rw [AR_leaf h (by omega), e]
theorem mparts_5 {M : Mem} {k : Nat} {w : Wsh} (hk : k < 8) (hw : okW w) (h : RMw (M 219) k w) {i : Nat} (hi : i < 16) : ∀ (n p : Nat), p ≤ (wP w).length → (wP w).length - p < n → f_X7_partsThat_5 n (nI k) (nI i) (nI (pth i (wP w) p)) (nI p) M = some (nI (pth i (wP w) (wP w).length), M) := by
  have h8 := hw.2.2.2.1
  intro n
  induction n with
  | zero => intro p _ h; omega
  | succ n ih =>
    intro p h3 h4
    rw [f_X7_partsThat_5, w_ok, Option.bind_some]
    unfold f_X7_partsThat_41 f_X7_formOf
    dsimp only
    rw [nI_add, mrd_n (by omega) (by omega), Option.bind_some, h.2.2.2.2.2.1]
    by_cases hp : p < (wP w).length
    · obtain ⟨a1, a2⟩ := hw.2.2.2.2 (wP w)[p] (List.getElem_mem hp)
      have hb := bw_le hk (show p < 8 by omega)
      rw [if_pos ((nlt (by omega) (by omega)).mpr hp), cell_ok, Option.bind_some]
      dsimp only
      rw [Nat.add_zero, mrd_n (by omega) (by omega), Option.bind_some, Option.bind_some]
      dsimp only
      simp only [PR_root (h.2.2.2.2.2.2 p hp) a2 hi, lf_kind a1 hi]
      have hpt := ih (p + 1) (by omega) (by omega)
      rw [pth_succ, getD_mem hp] at hpt
      by_cases e : kind (wP w)[p] = i
      · rw [if_pos e, shl1' (by omega), nI_or, nI_add]
        rw [if_pos e] at hpt
        exact hpt
      · rw [if_neg e, nI_or, nI_add]
        rw [if_neg e] at hpt
        exact hpt
    · have : p = (wP w).length := by omega
      subst this
      rw [if_neg (fun q => hp ((nlt (by omega) (by omega)).mp q))]
theorem mpartsThat_ok {M : Mem} {k : Nat} {w : Wsh} (hk : k < 8) (hw : okW w) (h : RMw (M 219) k w) {i : Nat} (hi : i < 16) : f_X7_partsThat (nI k) (nI i) M = some (nI (pth i (wP w) (wP w).length), M) :=
  mparts_5 hk hw h hi fuelN 0 (by omega) (by have := hw.2.2.2.1; unfold fuelN; omega)
/-- the same, where the verdict itself isn't in the row yet -/
theorem verdictBy_ok {M : Mem} {k : Nat} {w : Wsh} (hk : k < 8) (hw : okW w) (h : RMw (M 219) k w) : f_X7_verdictBy (nI k) M = some (nI (wv (wP w)), M) := by
  have h8 := hw.2.2.2.1
  have h0 := pth_lt' (i := 0) (l := wP w) h8
  have h1 := pth_lt' (i := 1) (l := wP w) h8
  obtain ⟨p1, p2⟩ := pow8 h8
  unfold f_X7_verdictBy f_X7_verdictBy_44
  rw [w_ok, Option.bind_some]
  dsimp only
  rw [nI_add, mrd_n (by omega) (by omega), Option.bind_some, h.2.2.2.2.2.1, mpartsThat_ok hk hw h (show 0 < 16 by omega), Option.bind_some, mpartsThat_ok hk hw h (show 1 < 16 by omega), Option.bind_some]
  have e2 : nI 1 <<< (nI (wP w).length &&& nI 31) - nI 1 = nI (2 ^ (wP w).length - 1) := by
    rw [shl1 (wP w).length (by omega)]
    exact nsub p2
  simp only [e2]
  unfold wv
  simp only [any_pth, all_pth]
  simp (disch := omega) only [neq]
  by_cases a : pth 0 (wP w) (wP w).length = 0
  · rw [if_pos a, if_neg (show ¬ ¬ pth 0 (wP w) (wP w).length = 0 from fun q => q a)]
    by_cases b : pth 1 (wP w) (wP w).length = 2 ^ (wP w).length - 1
    · rw [if_pos b, if_pos b]
    · rw [if_neg b, if_neg b]
  · rw [if_neg a, if_pos a]
/-- a part, loaded and rewritten -/
theorem mrew_part {M : Mem} {k p set : Nat} {t : T} (hk : k < 8) (hp : p < 8) (hsz : size t ≤ 120) (hP : PR (M 219) (bw k p) t) (hset : set < 64) :
    ∃ (y : Nat) (M' : Mem) (tb' : List T) (id : Nat) (M1 : Mem), f_X7_loadAlone (nI k) (nI p) M = some (nI id, M1) ∧ f_X7_rewritten (nI id) (nI set) M1 = some (nI y, M') ∧ MT M' tb' ∧ y < 16 + tb'.length ∧ dn tb' y = rew set t ∧ FW M M' := by
  obtain ⟨id, M1, tb, e1, f1, s1, i1, d1, o1⟩ := mloadAlone_ok hk hp hsz hP
  obtain ⟨r1, r2, r3, r4⟩ := sub_room hsz f1.1 s1 (id - 15) (by omega)
  have hls := lsum_le tb
  obtain ⟨y, M2, tc, e2, f2, i2, d2, o2⟩ := rewritten_ok f1 hset i1 (by omega) (by omega) (fun u hu => by have := r4 u hu; omega)
  exact ⟨y, M2, tb ++ tc, id, M1, e1, e2, f2, i2, by rw [d2, d1], o1.tr o2⟩
theorem id_leaf {tb : List T} (hk : okT tb) {y i : Nat} (hy : y < 16 + tb.length) (hl : tb.length ≤ 7900) (hi : i < 16) : (nI y = nI i) = (kind (dn tb y) = i) := by
  have hd := dn_kind hk hy
  apply propext
  rw [neq (by omega) (by omega)]
  constructor
  · intro e; rw [e]; rw [dn_lf hi, kind_lf]
  · intro e
    rcases Nat.lt_or_ge y 16 with q | q
    · rw [hd.1 q] at e; exact e
    · have := hd.2 q; omega
theorem wou_23 {k : Nat} {w : Wsh} (hk : k < 8) (hw : okW w) {set : Nat} (hset : set < 64) : ∀ (n p : Nat) (M : Mem), p ≤ (wP w).length → (wP w).length - p < n → RMw (M 219) k w → ∃ M', f_X7_wouldBe_23 n (nI k) (nI set) (bI ((((wP w).take p).map (rew set)).all fun t => kind t == 1)) (bI (!((((wP w).take p).map (rew set)).any fun t => kind t == 0))) (nI p) M = some (nI (wv ((wP w).map (rew set))), M') ∧ FW M M' := by
  have h8 := hw.2.2.2.1
  intro n
  induction n with
  | zero => intro p M _ h; omega
  | succ n ih =>
    intro p M h1 h2 hR
    rw [f_X7_wouldBe_23, w_ok, Option.bind_some]
    unfold f_X7_wouldBe_67 f_X7_wouldBe_68 f_X7_wouldBe_83 f_X7_wouldBe_84 f_X7_wouldBe_110
    dsimp only
    rw [nI_add, mrd_n (by omega) (by omega), Option.bind_some, hR.2.2.2.2.2.1]
    by_cases hp : p < (wP w).length
    · obtain ⟨t1, t2⟩ := hw.2.2.2.2 (wP w)[p] (List.getElem_mem hp)
      obtain ⟨y, M2, tb2, id, M1, e1, e2, f2, i2, d2, o2⟩ := mrew_part hk (show p < 8 by omega) t2 (hR.2.2.2.2.2.2 p hp) hset
      rw [if_pos ((nlt (by omega) (by omega)).mpr hp), e1, Option.bind_some]
      dsimp only
      rw [e2, Option.bind_some]
      dsimp only
      obtain ⟨M', e3, o3⟩ := ih (p + 1) M2 (by omega) (by omega) (by rw [o2.1 219 (by omega)]; exact hR)
      have hl2 := f2.2.1
      rw [List.take_succ_eq_append_getElem hp, List.map_append, List.all_append, List.any_append] at e3
      simp only [List.map_cons, List.map_nil, List.all_cons, List.all_nil, List.any_cons, List.any_nil, Bool.and_true, Bool.or_false] at e3
      simp only [id_leaf f2.1 i2 hl2 (show 1 < 16 by omega), id_leaf f2.1 i2 hl2 (show 0 < 16 by omega), d2, bI_0', nI_add]
      refine ⟨M', ?_, o2.tr o3⟩
      rw [← e3]
      generalize ((((wP w).take p).map (rew set)).all fun t => kind t == 1) = A
      generalize ((((wP w).take p).map (rew set)).any fun t => kind t == 0) = B
      by_cases a1 : kind (rew set (wP w)[p]) = 1
      · have a0 : ¬ kind (rew set (wP w)[p]) = 0 := by omega
        rw [show (kind (rew set (wP w)[p]) == 1) = true by simpa using a1, show (kind (rew set (wP w)[p]) == 0) = false by simpa using a0]
        cases A <;> cases B <;> simp only [if_pos a1, if_neg a0, Bool.and_true, Bool.or_false, Bool.not_true, Bool.not_false, if_true, if_false, Bool.true_eq_false, Bool.false_eq_true, bI_t, bI_f]
      · rw [show (kind (rew set (wP w)[p]) == 1) = false by simpa using a1]
        by_cases a0 : kind (rew set (wP w)[p]) = 0
        · rw [show (kind (rew set (wP w)[p]) == 0) = true by simpa using a0]
          cases A <;> cases B <;> simp only [if_neg a1, if_pos a0, Bool.and_false, Bool.or_true, Bool.not_true, Bool.not_false, if_true, if_false, Bool.true_eq_false, Bool.false_eq_true, bI_t, bI_f]
        · rw [show (kind (rew set (wP w)[p]) == 0) = false by simpa using a0]
          cases A <;> cases B <;> simp only [if_neg a1, if_neg a0, Bool.and_false, Bool.or_false, Bool.not_true, Bool.not_false, if_true, if_false, Bool.true_eq_false, Bool.false_eq_true, bI_t, bI_f]
    · have : p = (wP w).length := by omega
      subst this
      rw [if_neg (fun q => hp ((nlt (by omega) (by omega)).mp q)), List.take_length]
      simp only [bI_0']
      refine ⟨M, ?_, FW.rfl' M⟩
      unfold wv
      generalize (((wP w).map (rew set)).all fun t => kind t == 1) = A
      generalize (((wP w).map (rew set)).any fun t => kind t == 0) = B
      cases A <;> cases B <;> rfl
theorem wouldBe_ok {M : Mem} {k : Nat} {w : Wsh} (hk : k < 8) (hw : okW w) {set : Nat} (hset : set < 64) (hR : RMw (M 219) k w) : ∃ M', f_X7_wouldBe (nI k) (nI set) M = some (nI (wb w set), M') ∧ FW M M' := by
  have h2 := hw.1
  have h8 := hw.2.2.2.1
  unfold f_X7_wouldBe wb
  rw [verdict_ok hk hR, Option.bind_some]
  dsimp only
  rw [verdict_ok hk hR, Option.bind_some]
  simp (disch := omega) only [nlt]
  by_cases q : w.2.1 = 2
  · rw [if_neg (by omega), if_pos q]
    obtain ⟨M', e, o⟩ := wou_23 hk hw hset fuelN 0 M (Nat.zero_le _) (by unfold fuelN; omega) hR
    rw [List.take_zero] at e
    exact ⟨M', e, o⟩
  · rw [if_pos (by omega), if_neg q]
    exact ⟨M, rfl, FW.rfl' M⟩
theorem mblame_5 {k : Nat} {w : Wsh} (hk : k < 8) (hw : okW w) {set : Nat} (hset : set < 64) : ∀ (n j : Nat) (M : Mem), j ≤ 6 → 6 - j < n → RMw (M 219) k w → ∃ M', f_X7_blame_5 n (nI k) (nI set) (nI (blm w set j)) (nI j) M = some (nI (blm w set 6), M') ∧ FW M M' := by
  intro n
  induction n with
  | zero => intro j M _ h; omega
  | succ n ih =>
    intro j M h1 h2 hR
    rw [f_X7_blame_5]
    unfold f_X7_blame_35
    by_cases hj : j < 6
    · rw [if_pos ((nlt (by omega) (by omega)).mpr hj), shl1 j (by omega), nI_xor]
      obtain ⟨M1, e1, o1⟩ := wouldBe_ok hk hw (xor64 hset hj) hR
      have hle := wb_le hw (set ^^^ 2 ^ j)
      rw [e1, Option.bind_some, nI_add, nI_or, nI_or]
      have hs := blm_succ w set j
      obtain ⟨M', e2, o2⟩ := ih (j + 1) M1 (by omega) (by omega) (by rw [o1.1 219 (by omega)]; exact hR)
      rw [hs] at e2
      simp (disch := omega) only [neq]
      by_cases q : wb w (set ^^^ 2 ^ j) = 0
      · rw [if_pos q]
        rw [if_pos q] at e2
        exact ⟨M', e2, o1.tr o2⟩
      · rw [if_neg q]
        rw [if_neg q] at e2
        exact ⟨M', e2, o1.tr o2⟩
    · have : j = 6 := by omega
      subst this
      rw [if_neg (by decide)]
      exact ⟨M, rfl, FW.rfl' M⟩
theorem mblame_ok {M : Mem} {k : Nat} {w : Wsh} (hk : k < 8) (hw : okW w) {set : Nat} (hset : set < 64) (hR : RMw (M 219) k w) : ∃ M', f_X7_blame (nI k) (nI set) M = some (nI (blm w set 6), M') ∧ FW M M' :=
  mblame_5 hk hw hset fuelN 0 M (by omega) (by unfold fuelN; omega) hR
theorem msizes_4 {k : Nat} {w : Wsh} (hk : k < 8) (hw : okW w) : ∀ (n p : Nat) (M : Mem), p ≤ (wP w).length → (wP w).length - p < n → RMw (M 219) k w → ∃ M', f_X7_sizes_4 n (nI k) (nI (ssum ((wP w).take p))) (nI p) M = some (nI (ssum (wP w)), M') ∧ FW M M' := by
  have h8 := hw.2.2.2.1
  intro n
  induction n with
  | zero => intro p M _ h; omega
  | succ n ih =>
    intro p M h1 h2 hR
    rw [f_X7_sizes_4, w_ok, Option.bind_some]
    dsimp only
    rw [nI_add, mrd_n (by omega) (by omega), Option.bind_some, hR.2.2.2.2.2.1]
    by_cases hp : p < (wP w).length
    · obtain ⟨t1, t2⟩ := hw.2.2.2.2 (wP w)[p] (List.getElem_mem hp)
      obtain ⟨id, M1, tb, e1, f1, s1, i1, d1, o1⟩ := mloadAlone_ok hk (show p < 8 by omega) t2 (hR.2.2.2.2.2.2 p hp)
      have aa := (f1.2.2.2.2.2.1 id i1).2.1
      have hl1 := f1.2.1
      rw [if_pos ((nlt (by omega) (by omega)).mpr hp), e1, Option.bind_some]
      dsimp only
      rw [mrd_n (by omega) (by omega), Option.bind_some, aa, d1, nI_add, nI_add]
      have e : ssum ((wP w).take (p + 1)) = ssum ((wP w).take p) + size (wP w)[p] := take_sum size hp
      rw [← e]
      obtain ⟨M', e2, o2⟩ := ih (p + 1) M1 (by omega) (by omega) (by rw [o1.1 219 (by omega)]; exact hR)
      exact ⟨M', e2, o1.tr o2⟩
    · have : p = (wP w).length := by omega
      subst this
      rw [if_neg (fun q => hp ((nlt (by omega) (by omega)).mp q)), List.take_length]
      exact ⟨M, rfl, FW.rfl' M⟩
theorem msizes_ok {M : Mem} {k : Nat} {w : Wsh} (hk : k < 8) (hw : okW w) (hR : RMw (M 219) k w) : ∃ M', f_X7_sizes (nI k) M = some (nI (ssum (wP w)), M') ∧ FW M M' :=
  msizes_4 hk hw fuelN 0 M (Nat.zero_le _) (by have := hw.2.2.2.1; unfold fuelN; omega) hR
theorem mare_4 {k : Nat} {w : Wsh} (hk : k < 8) (hw : okW w) : ∀ (n p : Nat) (M : Mem), p ≤ (wP w).length → (wP w).length - p < n → RMw (M 219) k w → ∃ M', f_X7_areTrue_4 n (nI k) (bI (((wP w).take p).all tae)) (nI p) M = some (bI ((wP w).all tae), M') ∧ FW M M' := by
  have h8 := hw.2.2.2.1
  intro n
  induction n with
  | zero => intro p M _ h; omega
  | succ n ih =>
    intro p M h1 h2 hR
    rw [f_X7_areTrue_4, w_ok, Option.bind_some]
    unfold f_X7_areTrue_40 f_X7_areTrue_41
    dsimp only
    rw [nI_add, mrd_n (by omega) (by omega), Option.bind_some, hR.2.2.2.2.2.1]
    by_cases hp : p < (wP w).length
    · obtain ⟨t1, t2⟩ := hw.2.2.2.2 (wP w)[p] (List.getElem_mem hp)
      have hall : ((wP w).take (p + 1)).all tae = (((wP w).take p).all tae && tae (wP w)[p]) := by
        rw [List.take_succ_eq_append_getElem hp, List.all_append]
        simp
      rw [if_pos ((nlt (by omega) (by omega)).mpr hp)]
      simp only [bI_0', nI_add]
      cases q : ((wP w).take p).all tae with
      | false =>
        rw [if_pos rfl]
        obtain ⟨M', e2, o2⟩ := ih (p + 1) M (by omega) (by omega) hR
        rw [hall, q, Bool.false_and, bI_f] at e2
        exact ⟨M', e2, o2⟩
      | true =>
        obtain ⟨id, M1, tb, e1, f1, s1, i1, d1, o1⟩ := mloadAlone_ok hk (show p < 8 by omega) t2 (hR.2.2.2.2.2.2 p hp)
        obtain ⟨M2, e2, f2, o2⟩ := isTrue_ok f1 i1
        have o12 : FW M M2 := o1.tr ⟨fun c hc => o2 c (by omega), fun i _ => by rw [o2 218 (by omega)]⟩
        rw [if_neg (by decide), e1, Option.bind_some]
        dsimp only
        rw [e2, Option.bind_some]
        dsimp only
        rw [d1]
        simp only [bI_0']
        obtain ⟨M', e3, o3⟩ := ih (p + 1) M2 (by omega) (by omega) (by rw [o12.1 219 (by omega)]; exact hR)
        rw [hall, q, Bool.true_and] at e3
        refine ⟨M', ?_, o12.tr o3⟩
        rw [← e3]
        cases tae (wP w)[p] <;> simp only [if_true, Bool.true_eq_false, if_false, bI_t, bI_f]
    · have : p = (wP w).length := by omega
      subst this
      rw [if_neg (fun q => hp ((nlt (by omega) (by omega)).mp q)), List.take_length, mrz_b]
      exact ⟨M, rfl, FW.rfl' M⟩
theorem areTrue_ok {M : Mem} {k : Nat} {w : Wsh} (hk : k < 8) (hw : okW w) (hR : RMw (M 219) k w) : ∃ M', f_X7_areTrue (nI k) M = some (bI ((wP w).all tae), M') ∧ FW M M' := by
  have e := mare_4 hk hw fuelN 0 M (Nat.zero_le _) (by have := hw.2.2.2.1; unfold fuelN; omega) hR
  exact e
/-! history -/
theorem rec_50 {b : Nat} (hb : b < 4) : ∀ (n x : Nat) (M : Mem), M 218 24 = nI b → x ≤ 31088 → 31088 - x < n → ∃ M', f_X7_record_50 n (nI x) M = some (nI 0, mwr M' 218 24 (nI (b + 1))) ∧ (∀ c, c ≠ 220 → M' c = M c) ∧ (∀ i, x ≤ i → i < 31088 → M' 220 (31088 * b + i) = M 219 i) ∧ ∀ j, j < 31088 * b + x ∨ 31088 * b + 31088 ≤ j → M' 220 j = M 220 j := by
  intro n
  induction n with
  | zero => intro x M _ _ h; omega
  | succ n ih =>
    intro x M h24 h1 h2
    rw [f_X7_record_50, h24]
    by_cases hx : x < 31088
    · rw [if_pos ((nlt (by omega) (by omega)).mpr hx), mrd_n hx (by omega), Option.bind_some, nmul, nI_add, mst_n (by omega) (by omega), Option.bind_some, nI_add]
      obtain ⟨M', e, o1, o2, o3⟩ := ih (x + 1) (mwr M 220 (31088 * b + x) (M 219 x)) (by rw [mwr_off _ _ _ (by omega)]; exact h24) (by omega) (by omega)
      refine ⟨M', e, fun c hc => by rw [o1 c hc, mwr_ne _ _ _ hc], fun i h3 h4 => ?_, fun j hj => by rw [o3 j (by omega), mwr_in _ (by omega)]⟩
      by_cases q : i = x
      · subst q
        rw [o3 _ (by omega), mwr_at]
      · rw [o2 i (by omega) h4, mwr_off _ _ _ (by omega)]
    · have : x = 31088 := by omega
      subst this
      rw [if_neg (fun q => hx ((nlt (by omega) (by omega)).mp q)), nI_add, mpi_n, Option.bind_some]
      exact ⟨M, rfl, fun _ _ => rfl, fun i h3 h4 => by omega, fun _ _ => rfl⟩
theorem rec_10 : ∀ (n x : Nat) (M : Mem), M 218 24 = nI 4 → x ≤ 93264 → 93264 - x < n → ∃ M', f_X7_record_10 n (nI x) M = f_X7_record_48 (mwr M' 218 24 (nI 3)) ∧ (∀ c, c ≠ 220 → M' c = M c) ∧ (∀ i, x ≤ i → i < 93264 → M' 220 i = M 220 (31088 + i)) ∧ ∀ j, j < x → M' 220 j = M 220 j := by
  intro n
  induction n with
  | zero => intro x M _ _ h; omega
  | succ n ih =>
    intro x M h24 h1 h2
    rw [f_X7_record_10]
    by_cases hx : x < 93264
    · rw [if_pos ((nlt (by omega) (by omega)).mpr hx), nI_add, mrd_n (by omega) (by omega), Option.bind_some, mst_n (by omega) (by omega), Option.bind_some, nI_add]
      obtain ⟨M', e, o1, o2, o3⟩ := ih (x + 1) (mwr M 220 x (M 220 (31088 + x))) (by rw [mwr_off _ _ _ (by omega)]; exact h24) (by omega) (by omega)
      refine ⟨M', e, fun c hc => by rw [o1 c hc, mwr_ne _ _ _ hc], fun i h3 h4 => ?_, fun j hj => by rw [o3 j (by omega), mwr_in _ (by omega)]⟩
      by_cases q : i = x
      · subst q
        rw [o3 _ (by omega), mwr_at]
      · rw [o2 i (by omega) h4, mwr_in _ (by omega)]
    · have : x = 93264 := by omega
      subst this
      rw [if_neg (fun q => hx ((nlt (by omega) (by omega)).mp q)), h24, nsub (by omega), mpi_n, Option.bind_some]
      exact ⟨M, rfl, fun _ _ => rfl, fun i h3 h4 => by omega, fun _ _ => rfl⟩
/-- the states of the history, one behind another -/
def RMh (M : Mem) (h : List Sta) : Prop := ∀ i (hi : i < h.length), RM (fun j => M 220 (31088 * i + j)) h[i]
theorem record_ok {M : Mem} {s : Sta} {h : List Sta} (hs : okS s) (hh : ∀ x ∈ h, okS x) (hl : h.length ≤ 4) (h24 : M 218 24 = nI h.length) (hR : RM (M 219) s) (hH : RMh M h) :
    ∃ M', f_X7_record M = some (nI 0, M') ∧ RMh M' (recd h s) ∧ M' 218 24 = nI (recd h s).length ∧ (∀ c, c ≠ 218 → c ≠ 220 → M' c = M c) ∧ ∀ i, i ≠ 24 → M' 218 i = M 218 i := by
  have hrl := recd_len (h := h) (s := s) hl
  unfold f_X7_record
  rw [h24]
  by_cases q : h.length = 4
  · rw [if_pos (by rw [q])]
    obtain ⟨M1, e1, o1, o2, o3⟩ := rec_10 fuelN 0 M (by rw [h24, q]) (by omega) (by unfold fuelN; omega)
    rw [e1]
    unfold f_X7_record_48
    obtain ⟨M2, e2, p1, p2, p3⟩ := rec_50 (b := 3) (by omega) fuelN 0 (mwr M1 218 24 (nI 3)) (mwr_at _ _ _ _) (by omega) (by unfold fuelN; omega)
    rw [e2]
    have hrec : recd h s = h.tail ++ [s] := by unfold recd; rw [if_pos q]
    have htl : h.tail.length = 3 := by rw [List.length_tail]; omega
    refine ⟨_, rfl, fun i hi => ?_, by rw [mwr_at, hrl, if_pos q], fun c c1 c2 => by rw [mwr_ne _ _ _ c1, p1 c c2, mwr_ne _ _ _ c1, o1 c c2], fun i hi => by rw [mwr_in _ hi, p1 218 (by omega), mwr_in _ hi, o1 218 (by omega)]⟩
    rw [hrl, if_pos q] at hi
    simp only [hrec]
    by_cases a : i < 3
    · rw [List.getElem_append_left (by omega), List.getElem_tail]
      refine (hH (i + 1) (by omega)).congr (hh _ (List.getElem_mem _)) (fun j hj => ?_)
      rw [mwr_off _ _ _ (by omega), p3 _ (by omega), mwr_off _ _ _ (by omega), o2 _ (by omega) (by omega), show 31088 + (31088 * i + j) = 31088 * (i + 1) + j by omega]
    · have : i = 3 := by omega
      subst this
      rw [List.getElem_append_right (by omega)]
      simp only [htl, Nat.sub_self, List.getElem_cons_zero]
      refine hR.congr hs (fun j hj => ?_)
      rw [mwr_off _ _ _ (by omega), p2 j (by omega) hj, mwr_off _ _ _ (by omega), o1 219 (by omega)]
  · rw [if_neg (fun e => q ((neq (by omega) (by omega)).mp e))]
    unfold f_X7_record_48
    obtain ⟨M2, e2, p1, p2, p3⟩ := rec_50 (b := h.length) (by omega) fuelN 0 M h24 (by omega) (by unfold fuelN; omega)
    rw [e2]
    have hrec : recd h s = h ++ [s] := by unfold recd; rw [if_neg q]
    refine ⟨_, rfl, fun i hi => ?_, by rw [mwr_at, hrl, if_neg q], fun c c1 c2 => by rw [mwr_ne _ _ _ c1, p1 c c2], fun i hi => by rw [mwr_in _ hi, p1 218 (by omega)]⟩
    rw [hrl, if_neg q] at hi
    simp only [hrec]
    by_cases a : i < h.length
    · rw [List.getElem_append_left a]
      refine (hH i a).congr (hh _ (List.getElem_mem _)) (fun j hj => ?_)
      rw [mwr_off _ _ _ (by omega), p3 _ (by omega)]
    · have : i = h.length := by omega
      subst this
      rw [List.getElem_concat_length (by rfl)]
      refine hR.congr hs (fun j hj => ?_)
      rw [mwr_off _ _ _ (by omega), p2 j (by omega) hj]
