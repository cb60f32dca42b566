/-! one step of Changes.behind -/
theorem set14 {M : Mem} {tb : List T} (h : FT M tb) {g : T → T} {x y : Nat} (hB : BC M tb g x) (hy : y < 16 + tb.length) (hd : dn tb y = g (dn tb x)) : FT (mwr M 14 x (nI y)) tb ∧ BC (mwr M 14 x (nI y)) tb g (x + 1) ∧ ∀ c, c ≠ 14 → mwr M 14 x (nI y) c = M c :=
  ⟨h.congr (fun c _ _ => mwr_ne _ _ _ (by omega)), hB.mst hy hd, fun c hc => mwr_ne _ _ _ hc⟩
theorem wdt_lf (k i : Nat) (hk : 16 ≤ k) (hi : i < 16) : wdt k (lf i) = 1 := by
  unfold wdt
  rw [kind_lf, if_neg (by omega)]
theorem rew_wdt {set j : Nat} (hj : j = 20 ∨ j = 21) {t : T} (h : AR t = true) : wdt j (rew set t) ≤ size t := Nat.le_trans (wdt_MW hj _) (rew_MW set t h)
theorem behind_step {M : Mem} {tb : List T} (h : FT M tb) {set x : Nat} (h1 : 16 ≤ x) (h2 : x < 16 + tb.length) (hB : BC M tb (rew set) x) (c1 : tb.length + 2 ≤ 2032) (c2 : stof tb tb.length + (size (dn tb x) + 1) ≤ 8192) (c3 : size (dn tb x) ≤ 2000) (n root : Nat) (hr : x ≤ root) (hr2 : root < 2147483648) :
    ∃ (M' : Mem) (tc : List T), f_X0_behind_97 (n + 1) (nI root) (nI x) M = f_X0_behind_97 n (nI root) (nI (x + 1)) M' ∧ FT M' (tb ++ tc) ∧ BC M' (tb ++ tc) (rew set) (x + 1) ∧ tc.length ≤ 2 ∧ stof (tb ++ tc) (tb ++ tc).length ≤ stof tb tb.length + (size (dn tb x) + 1) ∧ ∀ c, c = 0 ∨ 16 ≤ c → M' c = M c := by
  have aa := h.2.2.2.2.2.1 x h2
  have hA := dn_AR h.1 h2
  have hAl := AR_le hA
  have hk16 := (dn_kind h.1 h2).2 h1
  have hs := size_eq (dn tb x)
  have hre := rew_eq set (dn tb x)
  have hkA : ∀ t ∈ kids (dn tb x), AR t = true := fun t ht => AR_kid hA ht
  generalize hX : dn tb x = X at *
  have kd := AR_kind hA
  have hnk : 1 ≤ nkid X := by
    rcases kd with q | ⟨-, f, q⟩ | ⟨-, f, g, q⟩ | q
    · omega
    · unfold nkid; rw [q]; simp
    · unfold nkid; rw [q]; simp
    · obtain ⟨-, f, g, l, q⟩ := q
      unfold nkid; rw [q]; simp
  obtain ⟨p0, p0a, p0b, p0c⟩ := kid_ok h h1 h2 (show 0 < nkid (dn tb x) by rw [hX]; omega)
  obtain ⟨p1, p1a, p1b, p1c⟩ := kid_ok h h1 h2 (show nkid X - 1 < nkid (dn tb x) by rw [hX]; omega)
  obtain ⟨y0, y0a, y0b, y0c⟩ := hB p0 p0a
  obtain ⟨y1, y1a, y1b, y1c⟩ := hB p1 p1a
  have fin : ∀ (id1 : Nat) (M1 : Mem) (tc : List T), FT M1 (tb ++ tc) → id1 < 16 + (tb ++ tc).length → dn (tb ++ tc) id1 = rew set X → tc.length ≤ 2 → stof (tb ++ tc) (tb ++ tc).length ≤ stof tb tb.length + (size X + 1) → (∀ c, c = 0 ∨ (14 ≤ c ∧ c ≠ 15) → M1 c = M c) →
      ∃ (M' : Mem) (tc : List T), ((mst M1 14 2048 (nI x) (nI id1)).bind fun M9 => f_X0_behind_300 (f_X0_behind_97 n) (nI root) (nI x) M9) = f_X0_behind_97 n (nI root) (nI (x + 1)) M' ∧ FT M' (tb ++ tc) ∧ BC M' (tb ++ tc) (rew set) (x + 1) ∧ tc.length ≤ 2 ∧ stof (tb ++ tc) (tb ++ tc).length ≤ stof tb tb.length + (size X + 1) ∧ ∀ c, c = 0 ∨ 16 ≤ c → M' c = M c := by
    intro id1 M1 tc f1 i1 d1 l1 s1 o1
    have hB1 : BC M1 (tb ++ tc) (rew set) x := hB.app (by omega) (o1 14 (by omega))
    obtain ⟨f2, b2, o2⟩ := set14 f1 hB1 i1 (by rw [d1, dn_app h2, hX])
    refine ⟨_, tc, ?_, f2, b2, l1, s1, fun c hc => by rw [o2 c (by omega), o1 c (by omega)]⟩
    unfold f_X0_behind_300
    rw [mst_n (by omega) (by omega), Option.bind_some, nI_add]
  rw [f_X0_behind_97]
  simp (disch := omega) only [nlt, show ¬ root < x by omega, if_false, p0b, Option.bind_some, mrd_n, aa.2.1, nsub, p1b, aa.1, neq]
  have uni : ∀ {k : Nat}, k = 20 ∨ k = 21 → ∀ {i : Nat}, i < 16 → ∀ f, kids X = [f] → rew set X = joinT k [lf i, f] → ∃ (M' : Mem) (tc : List T), ((f_X0_two (nI k) (nI i) (nI p0) M).bind fun q8 => (mst q8.2 14 2048 (nI x) q8.1).bind fun M9 => f_X0_behind_300 (f_X0_behind_97 n) (nI root) (nI x) M9) = f_X0_behind_97 n (nI root) (nI (x + 1)) M' ∧ FT M' (tb ++ tc) ∧ BC M' (tb ++ tc) (rew set) (x + 1) ∧ tc.length ≤ 2 ∧ stof (tb ++ tc) (tb ++ tc).length ≤ stof tb tb.length + (size X + 1) ∧ ∀ c, c = 0 ∨ 16 ≤ c → M' c = M c := by
    intro k hk i hi f q e
    have p0d : dn tb p0 = f := by rw [p0c]; simp only [hX, q, List.getElem_cons_zero]
    have w1 := wdt_lf k i (by omega) hi
    have w2 := wdt_le k f
    have hs2 : size X = 1 + size f := by rw [hs, q]; simp
    have di : dn tb i = lf i := dn_lf hi
    obtain ⟨id1, M1, tc, e1, f1, i1, d1, l1, s1, -, o1⟩ := two_ok h hk (show i < 16 + tb.length by omega) (show p0 < 16 + tb.length by omega) (by rw [di, p0d]; omega) ⟨by omega, by rw [di, p0d]; omega⟩
    rw [e1, Option.bind_some]
    exact fin id1 M1 tc f1 i1 (by rw [d1, di, p0d, e]) (by omega) (by rw [di, p0d] at s1; omega) (fun c hc => o1 c (by omega))
  have unt : ∀ {j : Nat}, j = 20 ∨ j = 21 → (kind X = 18 ∨ kind X = 19) → ∀ f g, kids X = [f, g] → rew set X = joinT (41 - j) [rew set g, joinT j [rew set f, X]] → ∃ (M' : Mem) (tc : List T), ((f_X0_two (nI j) (M 14 p0) (nI x) M).bind fun q16 => (f_X0_two (nI (41 - j)) (M 14 p1) q16.1 q16.2).bind fun q17 => (mst q17.2 14 2048 (nI x) q17.1).bind fun M18 => f_X0_behind_300 (f_X0_behind_97 n) (nI root) (nI x) M18) = f_X0_behind_97 n (nI root) (nI (x + 1)) M' ∧ FT M' (tb ++ tc) ∧ BC M' (tb ++ tc) (rew set) (x + 1) ∧ tc.length ≤ 2 ∧ stof (tb ++ tc) (tb ++ tc).length ≤ stof tb tb.length + (size X + 1) ∧ ∀ c, c = 0 ∨ 16 ≤ c → M' c = M c := by
    intro j hj hk f g q e
    have p0d : dn tb p0 = f := by rw [p0c]; simp only [hX, q, List.getElem_cons_zero]
    have p1d : dn tb p1 = g := by rw [p1c]; simp only [hX, q, nkid, List.length_cons, List.length_nil, Nat.add_sub_cancel, List.getElem_cons_succ, List.getElem_cons_zero]
    have hf : AR f = true := hkA f (by rw [q]; simp)
    have hg : AR g = true := hkA g (by rw [q]; simp)
    have hs2 : size X = 1 + (size f + size g) := by rw [hs, q]; simp
    have wf := rew_wdt (set := set) hj hf
    have wg := rew_wdt (set := set) (j := 41 - j) (by omega) hg
    have wx : wdt j X = 1 := by unfold wdt; rw [if_neg (by omega)]
    have sf := size_pos f
    rw [p0d] at y0c
    rw [p1d] at y1c
    simp only [y0b, y1b]
    obtain ⟨id1, M1, tc, e1, f1, i1, d1, l1, s1, -, o1⟩ := two_ok h hj y0a h2 (by rw [y0c, hX]; omega) ⟨by omega, by rw [y0c, hX]; omega⟩
    rw [y0c, hX] at d1 s1
    have win : wdt (41 - j) (joinT j [rew set f, X]) ≤ 1 := kind_join hj (rew_AR set f hf) hA hk
    have y1a' : y1 < 16 + (tb ++ tc).length := by rw [List.length_append]; omega
    have dy1 : dn (tb ++ tc) y1 = rew set g := by rw [dn_app y1a, y1c]
    rw [e1, Option.bind_some]
    obtain ⟨id2, M2, td, e2, f2, i2, d2, l2, s2, -, o2⟩ := two_ok f1 (show 41 - j = 20 ∨ 41 - j = 21 by omega) y1a' i1 (by rw [dy1, d1]; omega) ⟨by rw [List.length_append]; omega, by rw [dy1, d1]; omega⟩
    rw [e2, Option.bind_some]
    rw [dy1, d1] at d2 s2
    rw [List.append_assoc] at f2 i2 d2 s2
    exact fin id2 M2 (tc ++ td) f2 i2 (by rw [d2, e]) (by rw [List.length_append]; omega) (by omega) (fun c hc => by rw [o2 c (by omega), o1 c (by omega)])
  rcases kd with q | ⟨k1 | k1, f, q⟩ | ⟨k1 | k1, f, g, q⟩ | ⟨k1, f, g, l, q⟩
  · omega
  · simp +decide only [k1, if_true, if_false]
    exact uni (Or.inl rfl) (show 2 < 16 by omega) f q (by rw [hre, k1, q]; rfl)
  · simp +decide only [k1, if_true, if_false]
    exact uni (Or.inr rfl) (show 3 < 16 by omega) f q (by rw [hre, k1, q]; rfl)
  · simp +decide only [k1, if_true, if_false]
    exact unt (j := 20) (Or.inl rfl) (Or.inl k1) f g q (by rw [hre, k1, q, ← nd_eta X, k1, q]; rfl)
  · simp +decide only [k1, if_true, if_false]
    exact unt (j := 21) (Or.inr rfl) (Or.inr k1) f g q (by rw [hre, k1, q, ← nd_eta X, k1, q]; rfl)
  · have k2 : ¬ kind X = 16 ∧ ¬ kind X = 17 ∧ ¬ kind X = 18 ∧ ¬ kind X = 19 := by omega
    simp only [k2.1, k2.2.1, k2.2.2.1, k2.2.2.2, if_false]
    have hww : (((kids (dn tb x)).map (rew set)).map (wdt (kind X))).sum ≤ ((kids X).map size).sum := by
      rw [hX]
      clear hre hs fin uni unt p0c p1c hnk q
      revert hkA
      generalize kids X = L
      intro hkA
      induction L with
      | nil => exact Nat.le_refl _
      | cons a L ih =>
        have := ih (fun t ht => hkA t (List.mem_cons_of_mem _ ht))
        have e := rew_wdt (set := set) k1 (hkA a List.mem_cons_self)
        simp only [List.map_cons, List.sum_cons]
        omega
    have hjn : joinT (kind X) ((kids (dn tb x)).map (rew set)) = rew set X := by
      rw [hre, hX]
      unfold rewN
      rw [if_neg (by omega), if_neg (by omega), if_neg (by omega), if_neg (by omega), if_neg (by omega)]
    obtain ⟨id1, M1, tc, e1, f1, i1, d1, l1, s1, o1⟩ := joinKids_ok h k1 h1 h2 hB (by omega) (fun _ => ⟨by omega, by omega⟩)
    rw [e1, Option.bind_some]
    rw [hjn] at d1
    exact fin id1 M1 tc f1 i1 d1 (by rcases l1 with l1 | l1 <;> rw [l1] <;> simp) (by omega) o1
/-! the whole of Changes.behind -/
def wsum (tb : List T) (i : Nat) : Nat := ((tb.take i).map fun t => size t + 1).sum
theorem wsum_succ {tb : List T} {i : Nat} (h : i < tb.length) : wsum tb (i + 1) = wsum tb i + (size tb[i] + 1) := by
  unfold wsum
  rw [← List.take_append_getElem h, List.map_append, List.sum_append]
  simp
theorem wsum_mono {tb : List T} {i j : Nat} (h : i ≤ j) (hj : j ≤ tb.length) : wsum tb i ≤ wsum tb j := by
  induction j with
  | zero => rw [show i = 0 by omega]; exact Nat.le_refl _
  | succ j ih =>
    rcases Nat.lt_or_ge i (j + 1) with e | e
    · have := ih (by omega) (by omega)
      rw [wsum_succ (by omega)]
      omega
    · rw [show i = j + 1 by omega]; exact Nat.le_refl _
theorem behind_97 {tb : List T} {set root : Nat} (hr : 16 ≤ root) (hr2 : root < 16 + tb.length) (c1 : tb.length + 2 * (root - 15) ≤ 2032) (c2 : stof tb tb.length + wsum tb (root - 15) ≤ 8192) (c3 : ∀ t ∈ tb, size t ≤ 2000) :
    ∀ (n x : Nat) (M : Mem) (tc : List T), 16 ≤ x → x ≤ root + 1 → root + 1 - x < n → FT M (tb ++ tc) → BC M (tb ++ tc) (rew set) x → tc.length ≤ 2 * (x - 16) → stof (tb ++ tc) (tb ++ tc).length ≤ stof tb tb.length + wsum tb (x - 16) →
    ∃ (y : Nat) (M' : Mem) (tc : List T), f_X0_behind_97 n (nI root) (nI x) M = some (nI y, M') ∧ FT M' (tb ++ tc) ∧ y < 16 + (tb ++ tc).length ∧ dn (tb ++ tc) y = rew set (dn tb root) ∧ tc.length ≤ 2 * (root - 15) ∧ stof (tb ++ tc) (tb ++ tc).length ≤ stof tb tb.length + wsum tb (root - 15) ∧ ∀ c, c = 0 ∨ 16 ≤ c → M' c = M c := by
  intro n
  induction n with
  | zero => intro x M tc _ _ h; omega
  | succ n ih =>
    intro x M tc hx hxr hn hF hB hl hs
    rcases Nat.lt_or_ge root x with e | e
    · obtain ⟨y, a, b, c⟩ := hB root e
      rw [dn_app hr2] at c
      have : x = root + 1 := by omega
      subst this
      refine ⟨y, M, tc, ?_, hF, a, c, by omega, by rw [show root - 15 = root + 1 - 16 by omega]; exact hs, fun _ _ => rfl⟩
      rw [f_X0_behind_97]
      simp (disch := omega) only [nlt, show root < root + 1 by omega, if_true, mrd_n, Option.bind_some, b]
    · have hlx : x - 16 < tb.length := by omega
      have hdx : dn (tb ++ tc) x = tb[x - 16] := by
        rw [dn_app (by omega)]
        have := dn_nd hlx
        rw [show 16 + (x - 16) = x by omega] at this
        exact this
      have hw := wsum_succ hlx
      have hw2 := wsum_mono (tb := tb) (show x - 16 + 1 ≤ root - 15 by omega) (by omega)
      have h3 := c3 tb[x - 16] (List.getElem_mem _)
      obtain ⟨M1, td, e1, f1, b1, l1, s1, o1⟩ := behind_step hF hx (by rw [List.length_append]; omega) hB (by rw [List.length_append]; omega) (by rw [hdx]; omega) (by rw [hdx]; exact h3) n root e (by omega)
      rw [e1]
      rw [List.append_assoc] at f1 b1 s1
      rw [hdx] at s1
      obtain ⟨y, M2, te, e2, f2, y2, d2, l2, s2, o2⟩ := ih (x + 1) M1 (tc ++ td) (by omega) (by omega) (by omega) f1 b1 (by rw [List.length_append]; omega) (by rw [show x + 1 - 16 = x - 16 + 1 by omega]; omega)
      exact ⟨y, M2, te, e2, f2, y2, d2, l2, s2, fun c hc => by rw [o2 c hc, o1 c hc]⟩
