/-! the model: what an event makes of a form -/
def BM (M : Mem) (tb : List T) (g : T → T) (t : T) (x : Nat) : Prop := ∀ i, i < x → (i < 16 ∨ dn tb i ∈ subl t) → ∃ y, y < 16 + tb.length ∧ M 227 i = nI y ∧ dn tb y = g (dn tb i)
theorem BM.app {M M' : Mem} {tb tc : List T} {g : T → T} {t : T} {x : Nat} (h : BM M tb g t x) (hx : x ≤ 16 + tb.length) (hm : M' 227 = M 227) : BM M' (tb ++ tc) g t x := fun i hi hs => by
  have e := dn_app (tc := tc) (show i < 16 + tb.length by omega)
  obtain ⟨y, a, b, c⟩ := h i hi (by rw [e] at hs; exact hs)
  exact ⟨y, by rw [List.length_append]; omega, by rw [hm]; exact b, by rw [dn_app a, e]; exact c⟩
theorem BM.set {M : Mem} {tb : List T} {g : T → T} {t : T} {x y : Nat} (h : BM M tb g t x) (hy : y < 16 + tb.length) (hd : dn tb y = g (dn tb x)) : BM (mwr M 227 x (nI y)) tb g t (x + 1) := fun i hi hs => by
  by_cases q : i = x
  · subst q
    exact ⟨y, hy, mwr_at _ _ _ _, hd⟩
  · obtain ⟨z, a, b, c⟩ := h i (by omega) hs
    exact ⟨z, a, by rw [mwr_in _ q]; exact b, c⟩
theorem BM.skip {M : Mem} {tb : List T} {g : T → T} {t : T} {x : Nat} (h : BM M tb g t x) (hx : 16 ≤ x) (hn : ¬ dn tb x ∈ subl t) : BM M tb g t (x + 1) := fun i hi hs => by
  by_cases q : i = x
  · subst q
    rcases hs with hs | hs
    · omega
    · exact absurd hs hn
  · exact h i (by omega) hs
theorem MT.fb227 {M : Mem} {tb : List T} (h : MT M tb) (x : Nat) (v : Int32) : MT (mwr M 227 x v) tb := h.congr (fun c a b => mwr_ne _ _ _ (by omega)) (mwr_ne _ _ _ (by omega)) (mwr_off _ _ _ (by omega)) (mwr_off _ _ _ (by omega))
theorem grow {tb tc : List T} {t : T} {w : Nat} (h : tc = [] ∨ (tc = [t] ∧ t ∉ tb ∧ nkid t ≤ w)) : tc.length ≤ 1 ∧ lsum (tb ++ tc) (tb ++ tc).length ≤ lsum tb tb.length + w := by
  rcases h with rfl | ⟨rfl, -, h⟩
  · rw [List.append_nil]; simp
  · rw [lsum_snoc]
    refine ⟨by simp, ?_⟩
    have : lw t ≤ nkid t := by unfold lw; split <;> omega
    omega
theorem mputAll_6 {tb : List T} {k : Nat} (hk : k = 20 ∨ k = 21) {id : Nat} (h16 : 16 ≤ id) (hid : id < 16 + tb.length) (hk20 : 20 ≤ kind (dn tb id)) {g : T → T} {t : T} (ht : dn tb id ∈ subl t) (hw : (((kids (dn tb id)).map g).map (wdt k)).sum ≤ 3999) (hcap : joinT k ((kids (dn tb id)).map g) ∉ tb → CapM tb (((kids (dn tb id)).map g).map (wdt k)).sum) :
    ∀ (n j : Nat) (M : Mem), MT M tb → BM M tb g t id → j ≤ nkid (dn tb id) → nkid (dn tb id) - j < n → JM M tb k (items k (((kids (dn tb id)).take j).map g)) →
    ∃ (y : Nat) (M' : Mem) (tc : List T), f_X7_putAll_6 n (nI (k - 15)) (nI id) (nI j) M = some (nI y, M') ∧ MT M' (tb ++ tc) ∧ y < 16 + (tb ++ tc).length ∧ dn (tb ++ tc) y = joinT k ((kids (dn tb id)).map g) ∧ (tc = [] ∨ (tc = [joinT k ((kids (dn tb id)).map g)] ∧ joinT k ((kids (dn tb id)).map g) ∉ tb ∧ nkid (joinT k ((kids (dn tb id)).map g)) ≤ (((kids (dn tb id)).map g).map (wdt k)).sum)) ∧ FB M M' := by
  intro n
  induction n with
  | zero => intro j M _ _ _ h; omega
  | succ n ih =>
    intro j M h hB h1 h2 hJ
    have hl := h.2.1
    obtain ⟨-, n2⟩ := MT_node h h16 hid
    obtain ⟨s, hs, q1, q2, ki, q3⟩ := n2 hk20
    rw [f_X7_putAll_6, mrd_n (by omega) (by omega), Option.bind_some, q2]
    by_cases hj : j < nkid (dn tb id)
    · obtain ⟨k1, k2, k3⟩ := q3 j hj
      have hjk : j < (kids (dn tb id)).length := hj
      have hmem : dn tb (ki j) ∈ kids (dn tb id) := by rw [k3]; exact List.getElem_mem _
      obtain ⟨y, y1, y2, y3⟩ := hB (ki j) k1 (Or.inr (subl_kid ht hmem))
      rw [if_pos ((nlt (by omega) (by omega)).mpr hj)]
      simp (disch := omega) only [mrd_n, Option.bind_some, q1, nI_add, k2, y2]
      have hsplit : items k (((kids (dn tb id)).take (j + 1)).map g) = items k (((kids (dn tb id)).take j).map g) ++ its1 k (dn tb y) := by
        rw [List.take_succ_eq_append_getElem hjk, List.map_append, items_app]
        congr 1
        rw [List.map_cons, List.map_nil, items_cons, items_nil, List.append_nil, y3, k3]
      have hlen : (items k (((kids (dn tb id)).take (j + 1)).map g)).length ≤ (((kids (dn tb id)).map g).map (wdt k)).sum := by
        rw [items_len]
        conv => rhs; rw [← List.take_append_drop (j + 1) (kids (dn tb id)), List.map_append, List.map_append, List.sum_append]
        omega
      have hlen2 := congrArg List.length hsplit
      rw [List.length_append, its1_len] at hlen2
      obtain ⟨M1, e1, f1, g1, o1⟩ := mputIn_ok h hk hJ y1 (by omega)
      rw [e1, Option.bind_some]
      rw [← hsplit] at g1
      obtain ⟨z, M2, tc, e2, f2, g2, d2, l2, o2⟩ := ih (j + 1) M1 f1 (by
        have := hB.app (M' := M1) (tc := []) (by omega) (o1.1 227 (by omega) (by omega))
        rw [List.append_nil] at this
        exact this) (by omega) (by omega) g1
      exact ⟨z, M2, tc, e2, f2, g2, d2, l2, o1.fb.tr o2⟩
    · have hj' : j = nkid (dn tb id) := by omega
      rw [if_neg (fun q => hj ((nlt (by omega) (by omega)).mp q))]
      rw [hj', show (kids (dn tb id)).take (nkid (dn tb id)) = kids (dn tb id) from List.take_length] at hJ
      have hlen : (items k ((kids (dn tb id)).map g)).length = (((kids (dn tb id)).map g).map (wdt k)).sum := items_len _ _
      obtain ⟨y, M', tc, e1, f1, i1, d1, l1, o1⟩ := endPut_ok h hk hJ (by omega) (fun hn => by rw [hlen]; exact hcap hn)
      rw [e1, Option.bind_some]
      rw [hlen] at l1
      exact ⟨y, M', tc, rfl, f1, i1, d1, l1, o1⟩
theorem mputAll_ok {M : Mem} {tb : List T} (h : MT M tb) {k : Nat} (hk : k = 20 ∨ k = 21) {id : Nat} (h16 : 16 ≤ id) (hid : id < 16 + tb.length) (hk20 : 20 ≤ kind (dn tb id)) {g : T → T} {t : T} (hB : BM M tb g t id) (ht : dn tb id ∈ subl t) (hw : (((kids (dn tb id)).map g).map (wdt k)).sum ≤ 3999) (hcap : joinT k ((kids (dn tb id)).map g) ∉ tb → CapM tb (((kids (dn tb id)).map g).map (wdt k)).sum) :
    ∃ (y : Nat) (M' : Mem) (tc : List T), f_X7_putAll (nI (k - 15)) (nI id) M = some (nI y, M') ∧ MT M' (tb ++ tc) ∧ y < 16 + (tb ++ tc).length ∧ dn (tb ++ tc) y = joinT k ((kids (dn tb id)).map g) ∧ (tc = [] ∨ (tc = [joinT k ((kids (dn tb id)).map g)] ∧ joinT k ((kids (dn tb id)).map g) ∉ tb ∧ nkid (joinT k ((kids (dn tb id)).map g)) ≤ (((kids (dn tb id)).map g).map (wdt k)).sum)) ∧ FB M M' := by
  have nk := MT_nk h hid
  obtain ⟨M1, e1, f1, g1, o1⟩ := mbegin_ok h k
  obtain ⟨y, M2, tc, e2, f2, i2, d2, l2, o2⟩ := mputAll_6 hk h16 hid hk20 ht hw hcap fuelN 0 M1 f1 (by
    have := hB.app (M' := M1) (tc := []) (by omega) (o1.1 227 (by omega) (by omega))
    rw [List.append_nil] at this
    exact this) (Nat.zero_le _) (by unfold fuelN; omega) g1
  refine ⟨y, M2, tc, ?_, f2, i2, d2, l2, o1.fb.tr o2⟩
  unfold f_X7_putAll
  rw [e1, Option.bind_some, e2]
theorem mstep_ok {M : Mem} {tb : List T} (h : MT M tb) {set x : Nat} {t : T} (h1 : 16 ≤ x) (h2 : x < 16 + tb.length) (hB : BM M tb (rew set) t x) (ht : dn tb x ∈ subl t) (c1 : tb.length + 2 ≤ 7900) (c2 : lsum tb tb.length + (size (dn tb x) + 1) ≤ 80000) (c3 : size (dn tb x) ≤ 2000) :
    ∃ (y : Nat) (M' : Mem) (tc : List T), f_X7_step (nI x) M = some (nI y, M') ∧ MT M' (tb ++ tc) ∧ y < 16 + (tb ++ tc).length ∧ dn (tb ++ tc) y = rew set (dn tb x) ∧ tc.length ≤ 2 ∧ lsum (tb ++ tc) (tb ++ tc).length ≤ lsum tb tb.length + (size (dn tb x) + 1) ∧ FB M M' := by
  have aa := (h.2.2.2.2.2.1 x h2).1
  have hA := MT_AR h h2
  have hAl := AR_le hA
  have hk16 := (dn_kind h.1 h2).2 h1
  have hs := size_eq (dn tb x)
  have hre := rew_eq set (dn tb x)
  have hkA : ∀ t ∈ kids (dn tb x), AR t = true := fun t ht => AR_kid hA ht
  have hsub : ∀ y ∈ kids (dn tb x), y ∈ subl t := fun y hy => subl_kid ht hy
  obtain ⟨n1, n2⟩ := MT_node h h1 h2
  have hjA := fun (hk20 : kind (dn tb x) = 20 ∨ kind (dn tb x) = 21) (hw) (hcap) => mputAll_ok h hk20 h1 h2 (by omega) hB ht hw hcap
  generalize hX : dn tb x = X at *
  unfold f_X7_step
  simp (disch := omega) only [mrd_n, Option.bind_some, aa, neq]
  by_cases k20 : kind X < 20
  · clear hjA
    obtain ⟨a, b, ha, hb, q1, q2, q3, q4⟩ := n1 k20
    have uni : ∀ {k : Nat}, k = 20 ∨ k = 21 → ∀ {i : Nat}, i < 16 → kids X = [dn tb a] → rew set X = joinT k [lf i, dn tb a] → ∃ (y : Nat) (M' : Mem) (tc : List T), ((f_X7_both (nI (k - 15)) (nI i) (nI a) M).bind fun q4 => some (q4.1, q4.2)) = some (nI y, M') ∧ MT M' (tb ++ tc) ∧ y < 16 + (tb ++ tc).length ∧ dn (tb ++ tc) y = rew set X ∧ tc.length ≤ 2 ∧ lsum (tb ++ tc) (tb ++ tc).length ≤ lsum tb tb.length + (size X + 1) ∧ FB M M' := by
      intro k hk i hi q e
      have w1 := wdt_lf k i (by omega) hi
      have w2 := wdt_le k (dn tb a)
      have hs2 : size X = 1 + size (dn tb a) := by rw [hs, q]; simp
      have di : dn tb i = lf i := dn_lf hi
      obtain ⟨id1, M1, tc, e1, f1, i1, d1, l1, o1⟩ := both_ok h hk (show i < 16 + tb.length by omega) (show a < 16 + tb.length by omega) (by rw [di]; omega) (fun _ => ⟨by omega, by rw [di]; omega⟩)
      rw [e1, Option.bind_some]
      obtain ⟨g1, g2⟩ := grow l1
      rw [di] at g2
      exact ⟨id1, M1, tc, rfl, f1, i1, by rw [d1, di, e], by omega, by omega, o1⟩
    have unt : ∀ {j : Nat}, j = 20 ∨ j = 21 → (kind X = 18 ∨ kind X = 19) → kids X = [dn tb a, dn tb b] → rew set X = joinT (41 - j) [rew set (dn tb b), joinT j [rew set (dn tb a), X]] → ∃ (y : Nat) (M' : Mem) (tc : List T), ((f_X7_both (nI (j - 15)) (M 227 a) (nI x) M).bind fun q16 => (f_X7_both (nI (41 - j - 15)) (M 227 b) q16.1 q16.2).bind fun q17 => some (q17.1, q17.2)) = some (nI y, M') ∧ MT M' (tb ++ tc) ∧ y < 16 + (tb ++ tc).length ∧ dn (tb ++ tc) y = rew set X ∧ tc.length ≤ 2 ∧ lsum (tb ++ tc) (tb ++ tc).length ≤ lsum tb tb.length + (size X + 1) ∧ FB M M' := by
      intro j hj hk q e
      have hf : AR (dn tb a) = true := hkA _ (by rw [q]; simp)
      have hg : AR (dn tb b) = true := hkA _ (by rw [q]; simp)
      obtain ⟨y0, y0a, y0b, y0c⟩ := hB a ha (Or.inr (hsub _ (by rw [q]; simp)))
      obtain ⟨y1, y1a, y1b, y1c⟩ := hB b hb (Or.inr (hsub _ (by rw [q]; simp)))
      have hs2 : size X = 1 + (size (dn tb a) + size (dn tb b)) := by rw [hs, q]; simp
      have wf := rew_wdt (set := set) hj hf
      have wg := rew_wdt (set := set) (j := 41 - j) (by omega) hg
      have wx : wdt j X = 1 := by unfold wdt; rw [if_neg (by omega)]
      have sf := size_pos (dn tb a)
      simp only [y0b, y1b]
      obtain ⟨id1, M1, tc, e1, f1, i1, d1, l1, o1⟩ := both_ok h hj y0a h2 (by rw [y0c, hX]; omega) (fun _ => ⟨by omega, by rw [y0c, hX]; omega⟩)
      obtain ⟨g1, g2⟩ := grow l1
      rw [y0c, hX] at d1 g2
      have win : wdt (41 - j) (joinT j [rew set (dn tb a), X]) ≤ 1 := kind_join hj (rew_AR set _ hf) hA hk
      have y1a' : y1 < 16 + (tb ++ tc).length := by rw [List.length_append]; omega
      have dy1 : dn (tb ++ tc) y1 = rew set (dn tb b) := by rw [dn_app y1a, y1c]
      rw [e1, Option.bind_some]
      obtain ⟨id2, M2, td, e2, f2, i2, d2, l2, o2⟩ := both_ok f1 (show 41 - j = 20 ∨ 41 - j = 21 by omega) y1a' i1 (by rw [dy1, d1]; omega) (fun _ => ⟨by rw [List.length_append]; omega, by rw [dy1, d1]; omega⟩)
      rw [e2, Option.bind_some]
      obtain ⟨g3, g4⟩ := grow l2
      rw [dy1, d1] at d2 g4
      rw [List.append_assoc] at f2 i2 d2 g4
      exact ⟨id2, M2, tc ++ td, rfl, f2, i2, by rw [d2, e], by rw [List.length_append]; omega, by omega, o1.tr o2⟩
    have kk : kind X = 16 ∨ kind X = 17 ∨ kind X = 18 ∨ kind X = 19 := by omega
    rcases kk with k1 | k1 | k1 | k1
    · have q : kids X = [dn tb a] := by rw [q3, k1]; rfl
      simp +decide (disch := omega) only [k1, if_true, if_false, mrd_n, Option.bind_some, q1, q2]
      exact uni (Or.inl rfl) (show 2 < 16 by omega) q (by rw [hre, k1, q]; rfl)
    · have q : kids X = [dn tb a] := by rw [q3, k1]; rfl
      simp +decide (disch := omega) only [k1, if_true, if_false, mrd_n, Option.bind_some, q1, q2]
      exact uni (Or.inr rfl) (show 3 < 16 by omega) q (by rw [hre, k1, q]; rfl)
    · have q : kids X = [dn tb a, dn tb b] := by rw [q3, k1]; rfl
      simp +decide (disch := omega) only [k1, if_true, if_false, mrd_n, Option.bind_some, q1, q2]
      exact unt (j := 20) (Or.inl rfl) (Or.inl k1) q (by rw [hre, k1, q, ← nd_eta X, k1, q]; rfl)
    · have q : kids X = [dn tb a, dn tb b] := by rw [q3, k1]; rfl
      simp +decide (disch := omega) only [k1, if_true, if_false, mrd_n, Option.bind_some, q1, q2]
      exact unt (j := 21) (Or.inr rfl) (Or.inr k1) q (by rw [hre, k1, q, ← nd_eta X, k1, q]; rfl)
  · have k1 : kind X = 20 ∨ kind X = 21 := by omega
    have k2 : ¬ kind X - 15 = 1 ∧ ¬ kind X - 15 = 2 ∧ ¬ kind X - 15 = 3 ∧ ¬ kind X - 15 = 4 := by omega
    simp only [k2.1, k2.2.1, k2.2.2.1, k2.2.2.2, if_false]
    have hww : (((kids X).map (rew set)).map (wdt (kind X))).sum ≤ ((kids X).map size).sum := by
      clear hre hs hjA n1 n2 hsub
      revert hkA
      generalize kids X = L
      intro hkA
      induction L with
      | nil => exact Nat.le_refl _
      | cons a L ih =>
        have := ih (fun t ht => hkA t (List.mem_cons_of_mem _ ht))
        have e := rew_wdt (set := set) k1 (hkA a List.mem_cons_self)
        simp only [List.map_cons, List.sum_cons]
        omega
    have hjn : joinT (kind X) ((kids X).map (rew set)) = rew set X := by
      rw [hre]
      unfold rewN
      rw [if_neg (by omega), if_neg (by omega), if_neg (by omega), if_neg (by omega), if_neg (by omega)]
    obtain ⟨id1, M1, tc, e1, f1, i1, d1, l1, o1⟩ := hjA k1 (by omega) (fun _ => ⟨by omega, by omega⟩)
    rw [e1, Option.bind_some]
    obtain ⟨g1, g2⟩ := grow l1
    rw [hjn] at d1
    exact ⟨id1, M1, tc, rfl, f1, i1, d1, by omega, by omega, o1⟩
theorem bit_ok : ∀ set, set < 64 → ∀ s, s < 6 → (nI set >>> (nI s &&& nI 31)) &&& nI 1 = nI (if set.testBit s = true then 1 else 0) := by decide +kernel
theorem mrew_7 {tb0 : List T} {set form : Nat} (hset : set < 64) (hf : form < 16 + tb0.length) (c1 : tb0.length + 2 * (form - 15) ≤ 7900) (c2 : lsum tb0 tb0.length + wsum tb0 (form - 15) ≤ 80000) (c3 : ∀ t ∈ tb0, size t ≤ 2000) :
    ∀ (n k : Nat) (M : Mem) (tc : List T), MT M (tb0 ++ tc) → k ≤ form + 17 → (k ≤ form + 1 ∨ k ≤ 16) → form + 17 - k < n → tc.length ≤ 2 * (k - 16) → lsum (tb0 ++ tc) (tb0 ++ tc).length ≤ lsum tb0 tb0.length + wsum tb0 (k - 16) → MK M form (fun j => dn (tb0 ++ tc) j ∈ subl (dn tb0 form)) → BM M (tb0 ++ tc) (rew set) (dn tb0 form) k →
    ∃ (y : Nat) (M' : Mem) (td : List T), f_X7_rewritten_7 n (nI form) (nI set) (nI k) M = some (nI y, M') ∧ MT M' (tb0 ++ td) ∧ y < 16 + (tb0 ++ td).length ∧ dn (tb0 ++ td) y = rew set (dn tb0 form) ∧ (∀ c, c = 219 ∨ c = 220 ∨ c = 221 ∨ 231 ≤ c → M' c = M c) ∧ ∀ i, 16 ≤ i → M' 218 i = M 218 i := by
  intro n
  induction n with
  | zero => intro k M tc _ _ _ h; omega
  | succ n ih =>
    intro k M tc h hk1 hk2 hn ht hls hmk hB
    have hl := h.2.1
    have hlen : (tb0 ++ tc).length = tb0.length + tc.length := List.length_append
    rw [f_X7_rewritten_7]
    unfold f_X7_rewritten_18 f_X7_rewritten_74 f_X7_rewritten_99 f_X7_rewritten_47 f_X7_rewritten_123
    -- a leaf
    have leaf : k < 16 → ∀ v : Nat, v = lfv set k → ∃ (y : Nat) (M' : Mem) (td : List T), ((mst M 227 8000 (nI k) (nI v)).bind fun M1 => f_X7_rewritten_7 n (nI form) (nI set) (nI k + nI 1) M1) = some (nI y, M') ∧ MT M' (tb0 ++ td) ∧ y < 16 + (tb0 ++ td).length ∧ dn (tb0 ++ td) y = rew set (dn tb0 form) ∧ (∀ c, c = 219 ∨ c = 220 ∨ c = 221 ∨ 231 ≤ c → M' c = M c) ∧ ∀ i, 16 ≤ i → M' 218 i = M 218 i := by
      intro hk v hv
      have hvl := lfv_lt set k
      rw [mst_n (by omega) (by omega), Option.bind_some, nI_add]
      obtain ⟨y, M', td, e1, f1, i1, d1, o1, o2⟩ := ih (k + 1) (mwr M 227 k (nI v)) tc (h.fb227 k _) (by omega) (by omega) (by omega) (by omega) (by rw [show k + 1 - 16 = 0 by omega]; rw [show k - 16 = 0 by omega] at hls; exact hls) (fun j hj => by rw [mwr_off _ _ _ (by omega)]; exact hmk j hj) (hB.set (by omega) (by rw [dn_lf hk, rew_lf set hk, dn_lf (by omega), hv]))
      exact ⟨y, M', td, e1, f1, i1, d1, fun c hc => by rw [o1 c hc, mwr_ne _ _ _ (by omega)], fun i hi => by rw [o2 i hi, mwr_off _ _ _ (by omega)]⟩
    by_cases q1 : k < 16
    · have hcond : ∀ A B : Option Rv, (if nI form < nI k then if nI k < nI 16 then A else B else A) = A := fun A B => by
        rw [if_pos (show nI k < nI 16 from (nlt (by omega) (by omega)).mpr q1)]
        split <;> rfl
      rw [hcond]
      by_cases q2 : k < 4
      · rw [if_pos ((nlt (by omega) (by omega)).mpr q2)]
        have h4 : k = 0 ∨ k = 1 ∨ k = 2 ∨ k = 3 := by omega
        rcases h4 with rfl | rfl | rfl | rfl
        · exact leaf q1 0 rfl
        · exact leaf q1 1 rfl
        · exact leaf q1 1 rfl
        · exact leaf q1 0 rfl
      · rw [if_neg (fun q => q2 ((nlt (by omega) (by omega)).mp q)), if_pos ((nlt (by omega) (by omega)).mpr q1)]
        by_cases q3 : k < 10
        · simp (disch := omega) only [nlt, q3, if_true, nsub]
          rw [bit_ok set hset (k - 4) (by omega)]
          refine leaf q1 _ ?_
          unfold lfv
          rw [if_neg (show ¬ k < 2 by omega), if_neg (show ¬ k = 2 by omega), if_neg (show ¬ k = 3 by omega), if_pos q3]
        · simp (disch := omega) only [nlt, q3, if_false, nsub]
          rw [bit_ok set hset (k - 10) (by omega), nsub (by split <;> omega)]
          refine leaf q1 _ ?_
          unfold lfv
          rw [if_neg (show ¬ k < 2 by omega), if_neg (show ¬ k = 2 by omega), if_neg (show ¬ k = 3 by omega), if_neg q3]
          split <;> rfl
    · by_cases q2 : form < k
      · rw [if_pos ((nlt (by omega) (by omega)).mpr q2), if_neg (fun q => q1 ((nlt (by omega) (by omega)).mp q))]
        obtain ⟨y, y1, y2, y3⟩ := hB form q2 (Or.inr (by rw [dn_app hf]; exact subl_self _))
        rw [mrd_n (by omega) (by omega), Option.bind_some, y2]
        exact ⟨y, M, tc, rfl, h, y1, by rw [y3, dn_app hf], fun _ _ => rfl, fun _ _ => rfl⟩
      · rw [if_neg (fun q => q2 ((nlt (by omega) (by omega)).mp q)), if_neg (fun q => by have := (nlt (by omega) (by omega)).mp q; omega), if_neg (fun q => q1 ((nlt (by omega) (by omega)).mp q))]
        have hki : k - 16 < tb0.length := by omega
        have hkd : dn (tb0 ++ tc) k = tb0[k - 16] := by
          rw [dn_app (by omega)]
          have := dn_nd (tb := tb0) hki
          rwa [show 16 + (k - 16) = k by omega] at this
        have hws := wsum_succ hki
        have hwm := wsum_mono (tb := tb0) (i := k - 16 + 1) (j := form - 15) (by omega) (by omega)
        have hsz := c3 tb0[k - 16] (List.getElem_mem _)
        rw [mrd_n (by omega) (by omega), Option.bind_some]
        by_cases hm : dn (tb0 ++ tc) k ∈ subl (dn tb0 form)
        · rw [(hmk k (Or.inr (by omega))).1 hm, if_neg (by decide)]
          obtain ⟨y, M1, td, e1, f1, i1, d1, l1, s1, o1⟩ := mstep_ok h (by omega) (by omega) hB hm (by omega) (by rw [hkd]; omega) (by rw [hkd]; omega)
          rw [e1, Option.bind_some, mst_n (by omega) (by omega), Option.bind_some, nI_add]
          have hB1 : BM M1 (tb0 ++ tc ++ td) (rew set) (dn tb0 form) k := hB.app (by omega) (o1.1 227 (by omega))
          have hdk : dn (tb0 ++ tc ++ td) k = dn (tb0 ++ tc) k := dn_app (by omega)
          have hB2 := hB1.set i1 (by rw [d1, hdk])
          rw [hkd] at s1
          rw [List.append_assoc] at f1 hB2 s1 i1 d1
          obtain ⟨z, M', te, e2, f2, i2, d2, o2, o3⟩ := ih (k + 1) (mwr M1 227 k (nI y)) (tc ++ td) (f1.fb227 k _) (by omega) (by omega) (by omega) (by rw [List.length_append]; omega) (by rw [show k + 1 - 16 = k - 16 + 1 by omega]; omega) (fun j hj => by
            rw [mwr_off _ _ _ (by omega), o1.1 228 (by omega)]
            have := hmk j hj
            have e : dn (tb0 ++ (tc ++ td)) j = dn (tb0 ++ tc) j := by rw [← List.append_assoc]; exact dn_app (by omega)
            simp only [e]
            exact this) hB2
          exact ⟨z, M', te, e2, f2, i2, d2, fun c hc => by rw [o2 c hc, mwr_ne _ _ _ (by omega), o1.1 c (by omega)], fun i hi => by rw [o3 i hi, mwr_off _ _ _ (by omega), o1.2 i hi]⟩
        · rw [(hmk k (Or.inr (by omega))).2 hm, if_pos rfl, nI_add]
          exact ih (k + 1) M tc h (by omega) (by omega) (by omega) (by omega) (by rw [show k + 1 - 16 = k - 16 + 1 by omega]; omega) hmk (hB.skip (by omega) hm)
/-- what a rewriting leaves as it was -/
def FW (M M' : Mem) : Prop := (∀ c, c = 219 ∨ c = 220 ∨ c = 221 ∨ 231 ≤ c → M' c = M c) ∧ ∀ i, 16 ≤ i → M' 218 i = M 218 i
theorem FW.rfl' (M : Mem) : FW M M := ⟨fun _ _ => rfl, fun _ _ => rfl⟩
theorem FW.tr {A B C : Mem} (h : FW A B) (g : FW B C) : FW A C := ⟨fun c hc => by rw [g.1 c hc, h.1 c hc], fun i hi => by rw [g.2 i hi, h.2 i hi]⟩
theorem FB.fw {M M' : Mem} (h : FB M M') : FW M M' := ⟨fun c hc => h.1 c (by omega), h.2⟩
theorem rewritten_ok {M : Mem} {tb : List T} (h : MT M tb) {set form : Nat} (hset : set < 64) (hf : form < 16 + tb.length) (c1 : tb.length + 2 * (form - 15) ≤ 7900) (c2 : lsum tb tb.length + wsum tb (form - 15) ≤ 80000) (c3 : ∀ t ∈ tb, size t ≤ 2000) :
    ∃ (y : Nat) (M' : Mem) (tc : List T), f_X7_rewritten (nI form) (nI set) M = some (nI y, M') ∧ MT M' (tb ++ tc) ∧ y < 16 + (tb ++ tc).length ∧ dn (tb ++ tc) y = rew set (dn tb form) ∧ FW M M' := by
  have hl := h.2.1
  unfold f_X7_rewritten
  obtain ⟨M1, e1, f1, g1, o1⟩ := mark_ok h hf
  rw [e1, Option.bind_some]
  obtain ⟨y, M2, td, e2, f2, i2, d2, o2, o3⟩ := mrew_7 hset hf c1 c2 c3 fuelN 0 M1 [] (by rw [List.append_nil]; exact f1) (by omega) (by omega) (by unfold fuelN; omega) (by simp) (by rw [List.append_nil]; omega) (by rw [List.append_nil]; exact g1) (fun i hi => by omega)
  exact ⟨y, M2, td, e2, f2, i2, d2, fun c hc => by rw [o2 c hc, o1 c (by omega)], fun i hi => by rw [o3 i hi, o1 218 (by omega)]⟩
