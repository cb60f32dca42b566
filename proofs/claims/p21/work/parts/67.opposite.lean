/-! Changes.opposite -/
theorem MW_opp : ∀ t : T, AR t = true → NF t → MW (opp t) ≤ MW t := by
  intro t
  induction t using T_ind with
  | h k ts ih =>
    intro hA hN
    have hAk := ((AR_nd _ _).mp hA).2
    have hNk := ((NF_nd _ _).mp hN).1
    have hk21 := AR_le hA
    rw [kind_nd] at hk21
    have hp := MW_pos (nd k ts)
    by_cases h20 : k < 20
    · have ho : kind (opp (nd k ts)) < 20 := by
        rw [(opp_NF _ hA hN).2.2, kind_nd]
        revert h20
        generalize k = j
        revert j
        decide
      rw [MW_eq (opp _), if_neg (by omega)]
      exact hp
    · have hk : k = 20 ∨ k = 21 := by omega
      have p3 := (((NF_nd _ _).mp hN).2 hk).2.2
      have e : opp (nd k ts) = joinT (41 - k) (ts.map opp) := by
        rw [opp_nd]
        unfold oppN
        rw [if_neg (by omega), if_neg (by omega), if_neg (by omega), if_neg (by omega), if_neg (by omega)]
      rw [e]
      have hl : ts.length ≤ MW (nd k ts) := by rw [MW_nd, if_pos hk]; omega
      refine MW_joinT (by omega) ?_ hp (fun y hy => ?_)
      · refine Nat.le_trans ?_ hl
        have : ∀ l : List T, (∀ t ∈ l, wdt (41 - k) (opp t) ≤ 1) → ((l.map opp).map (wdt (41 - k))).sum ≤ l.length := by
          intro l
          induction l with
          | nil => intro _; exact Nat.le_refl _
          | cons a l ih2 =>
            intro h
            have h1 := h a List.mem_cons_self
            have h2 := ih2 (fun t ht => h t (List.mem_cons_of_mem _ ht))
            simp only [List.map_cons, List.sum_cons, List.length_cons]
            omega
        refine this ts (fun t ht => ?_)
        unfold wdt
        rw [if_neg]
        · exact Nat.le_refl _
        · rw [(opp_NF t (hAk t ht) (hNk t ht)).2.2]
          intro e2
          have a := AR_le (hAk t ht)
          have ok2 : okd k = 41 - k := by unfold okd; rw [if_neg (by omega), if_neg (by omega), if_neg h20]
          exact (p3 t ht).1 (okd_inj (by omega) (by omega) (by rw [e2, ok2]))
      · obtain ⟨u, hu, rfl⟩ := List.mem_map.mp hy
        refine Nat.le_trans (ih u hu (hAk u hu) (hNk u hu)) ?_
        have := MW_kid (t := nd k ts) (x := u) (by rw [kind_nd]; exact hk) (by rw [kids_nd]; exact hu)
        exact this
theorem nodup_len {α : Type} : ∀ {a b : List α}, a.Nodup → (∀ x ∈ a, x ∈ b) → a.length ≤ b.length := by
  intro a
  induction a with
  | nil => intro b _ _; exact Nat.zero_le _
  | cons x a ih =>
    intro b hn h
    obtain ⟨p, q, e⟩ := List.append_of_mem (h x List.mem_cons_self)
    have hn' := List.nodup_cons.mp hn
    have := ih (b := p ++ q) hn'.2 (fun y hy => by
      have h1 := h y (List.mem_cons_of_mem _ hy)
      rw [e] at h1
      rcases List.mem_append.mp h1 with h1 | h1
      · exact List.mem_append_left _ h1
      · rcases List.mem_cons.mp h1 with rfl | h1
        · exact absurd hy hn'.1
        · exact List.mem_append_right _ h1)
    rw [e]
    simp only [List.length_append, List.length_cons] at this ⊢
    omega
def PT (D tb : List T) : Prop := ∀ t ∈ tb, NF t ∧ MW t ≤ 60 ∧ (t ∈ D ∨ opp t ∈ D)
theorem nkid_MW {t : T} (h : AR t = true) : nkid t ≤ 2 ∨ nkid t ≤ MW t := by
  rcases AR_kind h with q | ⟨-, x, q⟩ | ⟨-, x, y, q⟩ | q
  · exact Or.inl (by unfold nkid; rw [q.2]; simp)
  · exact Or.inl (by unfold nkid; rw [q]; simp)
  · exact Or.inl (by unfold nkid; rw [q]; simp)
  · refine Or.inr ?_
    rw [MW_eq, if_pos q.1]
    show (kids t).length ≤ _
    omega
theorem PT_cap {D tb : List T} (h : okT tb) (hP : PT D tb) : tb.length ≤ 2 * D.length ∧ stof tb tb.length ≤ 60 * tb.length := by
  constructor
  · have := nodup_len (b := D ++ D.map opp) h.1 (fun t ht => by
      rcases (hP t ht).2.2 with e | e
      · exact List.mem_append_left _ e
      · rw [← (opp_NF t (h.2 t ht).1 (hP t ht).1).2.1]
        exact List.mem_append_right _ (List.mem_map_of_mem e))
    rw [List.length_append, List.length_map] at this
    omega
  · unfold stof
    rw [List.take_length]
    have : ∀ l : List T, (∀ t ∈ l, nkid t ≤ 60) → (l.map nkid).sum ≤ 60 * l.length := by
      intro l
      induction l with
      | nil => intro _; exact Nat.le_refl _
      | cons a l ih =>
        intro h
        have h1 := h a List.mem_cons_self
        have h2 := ih (fun t ht => h t (List.mem_cons_of_mem _ ht))
        simp only [List.map_cons, List.sum_cons, List.length_cons]
        omega
    refine this tb (fun t ht => ?_)
    have := nkid_MW (h.2 t ht).1
    have := (hP t ht).2.1
    omega
theorem PT_opp {D tb : List T} (h : okT tb) (hP : PT D tb) {t : T} (ht : t ∈ tb) : NF (opp t) ∧ MW (opp t) ≤ 60 ∧ (opp t ∈ D ∨ opp (opp t) ∈ D) := by
  obtain ⟨a, b, c⟩ := hP t ht
  obtain ⟨d, e, f⟩ := opp_NF t (h.2 t ht).1 a
  refine ⟨d, Nat.le_trans (MW_opp t (h.2 t ht).1 a) b, ?_⟩
  rw [e]
  exact c.symm
theorem PT_snoc {D tb : List T} (hP : PT D tb) {t : T} (ht : NF t ∧ MW t ≤ 60 ∧ (t ∈ D ∨ opp t ∈ D)) : PT D (tb ++ [t]) := fun u hu => by
  rcases List.mem_append.mp hu with hu | hu
  · exact hP u hu
  · rw [List.mem_singleton.mp hu]; exact ht
theorem opposite_step {M : Mem} {tb D : List T} (h : FT M tb) (hD : D.length ≤ 60) (hP : PT D tb) {x : Nat} (h1 : 16 ≤ x) (h2 : x < 16 + tb.length) (hB : BC M tb opp x) (n root : Nat) (hr : x ≤ root) (hr2 : root < 2147483648) :
    ∃ (M' : Mem) (tc : List T), f_X0_opposite_69 (n + 1) (nI root) (nI x) M = f_X0_opposite_69 n (nI root) (nI (x + 1)) M' ∧ FT M' (tb ++ tc) ∧ BC M' (tb ++ tc) opp (x + 1) ∧ PT D (tb ++ tc) ∧ ∀ c, c = 0 ∨ 17 ≤ c → M' c = M c := by
  have aa := h.2.2.2.2.2.1 x h2
  have hA := dn_AR h.1 h2
  have hAl := AR_le hA
  have hk16 := (dn_kind h.1 h2).2 h1
  have hre := opp_eq (dn tb x)
  have hP0 := hP _ (dn_mem h1 h2)
  have hPo := PT_opp h.1 hP (dn_mem h1 h2)
  have hc := PT_cap h.1 hP
  have hkA : ∀ t ∈ kids (dn tb x), AR t = true := fun t ht => AR_kid hA ht
  generalize hX : dn tb x = X at *
  have kd := AR_kind hA
  have hnk : 1 ≤ nkid X := by
    rcases kd with q | ⟨-, f, q⟩ | ⟨-, f, g, q⟩ | q
    · omega
    · unfold nkid; rw [q]; simp
    · unfold nkid; rw [q]; simp
    · obtain ⟨-, f, g, l, q⟩ := q
      unfold nkid; rw [q]; simp
  obtain ⟨p0, p0a, p0b, p0c⟩ := kid_ok h h1 h2 (show 0 < nkid (dn tb x) by rw [hX]; omega)
  obtain ⟨p1, p1a, p1b, p1c⟩ := kid_ok h h1 h2 (show nkid X - 1 < nkid (dn tb x) by rw [hX]; omega)
  obtain ⟨y0, y0a, y0b, y0c⟩ := hB p0 p0a
  obtain ⟨y1, y1a, y1b, y1c⟩ := hB p1 p1a
  have fin : ∀ (id1 : Nat) (M1 : Mem) (tc : List T), FT M1 (tb ++ tc) → id1 < 16 + (tb ++ tc).length → dn (tb ++ tc) id1 = opp X → (tc = [] ∨ tc = [opp X]) → (∀ c, c = 0 ∨ (14 ≤ c ∧ c ≠ 15 ∧ c ≠ 16) → M1 c = M c) →
      ∃ (M' : Mem) (tc : List T), ((mst M1 14 2048 (nI x) (nI id1)).bind fun M9 => f_X0_opposite_249 (f_X0_opposite_69 n) (nI root) (nI x) M9) = f_X0_opposite_69 n (nI root) (nI (x + 1)) M' ∧ FT M' (tb ++ tc) ∧ BC M' (tb ++ tc) opp (x + 1) ∧ PT D (tb ++ tc) ∧ ∀ c, c = 0 ∨ 17 ≤ c → M' c = M c := by
    intro id1 M1 tc f1 i1 d1 l1 o1
    have hB1 : BC M1 (tb ++ tc) opp x := hB.app (by omega) (o1 14 (by omega))
    obtain ⟨f2, b2, o2⟩ := set14 f1 hB1 i1 (by rw [d1, dn_app h2, hX])
    refine ⟨_, tc, ?_, f2, b2, ?_, fun c hc => by rw [o2 c (by omega), o1 c (by omega)]⟩
    · unfold f_X0_opposite_249
      rw [mst_n (by omega) (by omega), Option.bind_some, nI_add]
    · rcases l1 with rfl | rfl
      · rw [List.append_nil]; exact hP
      · exact PT_snoc hP hPo
  rw [f_X0_opposite_69]
  simp (disch := omega) only [nlt, show ¬ root < x by omega, if_false, p0b, Option.bind_some, mrd_n, aa.2.1, nsub, p1b, aa.1, neq, y0b, y1b]
  have mk : ∀ {j : Nat}, 16 ≤ j → j ≤ 19 → ∀ {z : Nat}, z < 16 + tb.length → opp X = nd j (prs j (dn tb y0) (dn tb z)) → ∃ (M' : Mem) (tc : List T), ((f_X0_make (nI j) (nI y0) (nI z) M).bind fun q10 => (mst q10.2 14 2048 (nI x) q10.1).bind fun M11 => f_X0_opposite_249 (f_X0_opposite_69 n) (nI root) (nI x) M11) = f_X0_opposite_69 n (nI root) (nI (x + 1)) M' ∧ FT M' (tb ++ tc) ∧ BC M' (tb ++ tc) opp (x + 1) ∧ PT D (tb ++ tc) ∧ ∀ c, c = 0 ∨ 17 ≤ c → M' c = M c := by
    intro j hj1 hj2 z hz e
    obtain ⟨id1, M1, tc, e1, f1, i1, d1, l1, o1⟩ := pair_ok h hj1 hj2 y0a hz (fun _ => ⟨by omega, by omega⟩)
    rw [e1, Option.bind_some]
    rw [← e] at d1 l1
    exact fin id1 M1 tc f1 i1 d1 (by rcases l1 with l1 | l1; exact Or.inl l1; exact Or.inr l1.1) (fun c hc => o1 c (by omega))
  rcases kd with q | ⟨k1 | k1, f, q⟩ | ⟨k1 | k1, f, g, q⟩ | ⟨k1, f, g, l, q⟩
  · omega
  · have p0d : dn tb p0 = f := by rw [p0c]; simp only [hX, q, List.getElem_cons_zero]
    simp +decide only [k1, if_true, if_false]
    exact mk (by omega) (by omega) y0a (by rw [hre, k1, q, y0c, p0d]; rfl)
  · have p0d : dn tb p0 = f := by rw [p0c]; simp only [hX, q, List.getElem_cons_zero]
    simp +decide only [k1, if_true, if_false]
    exact mk (by omega) (by omega) y0a (by rw [hre, k1, q, y0c, p0d]; rfl)
  · have p0d : dn tb p0 = f := by rw [p0c]; simp only [hX, q, List.getElem_cons_zero]
    have p1d : dn tb p1 = g := by rw [p1c]; simp only [hX, q, nkid, List.length_cons, List.length_nil, Nat.add_sub_cancel, List.getElem_cons_succ, List.getElem_cons_zero]
    simp +decide only [k1, if_true, if_false]
    exact mk (by omega) (by omega) y1a (by rw [hre, k1, q, y0c, p0d, y1c, p1d]; rfl)
  · have p0d : dn tb p0 = f := by rw [p0c]; simp only [hX, q, List.getElem_cons_zero]
    have p1d : dn tb p1 = g := by rw [p1c]; simp only [hX, q, nkid, List.length_cons, List.length_nil, Nat.add_sub_cancel, List.getElem_cons_succ, List.getElem_cons_zero]
    simp +decide only [k1, if_true, if_false]
    exact mk (by omega) (by omega) y1a (by rw [hre, k1, q, y0c, p0d, y1c, p1d]; rfl)
  · have k2 : ¬ kind X = 16 ∧ ¬ kind X = 17 ∧ ¬ kind X = 18 ∧ ¬ kind X = 19 := by omega
    simp only [k2.1, k2.2.1, k2.2.2.1, k2.2.2.2, if_false]
    have p3 := (NF_pln hP0.1 k1).2.2
    have hnm : nkid X ≤ 60 := by
      have := nkid_MW hA
      have := hP0.2.1
      omega
    have hww : (((kids (dn tb x)).map opp).map (wdt (41 - kind X))).sum ≤ nkid X := by
      rw [hX]
      have : ∀ l : List T, (∀ t ∈ l, wdt (41 - kind X) (opp t) ≤ 1) → ((l.map opp).map (wdt (41 - kind X))).sum ≤ l.length := by
        intro l
        induction l with
        | nil => intro _; exact Nat.le_refl _
        | cons a l ih2 =>
          intro h
          have h1 := h a List.mem_cons_self
          have h2 := ih2 (fun t ht => h t (List.mem_cons_of_mem _ ht))
          simp only [List.map_cons, List.sum_cons, List.length_cons]
          omega
      refine this _ (fun t ht => ?_)
      unfold wdt
      rw [if_neg]
      · exact Nat.le_refl _
      · rw [(opp_NF t (hkA t ht) (NF_kid hP0.1 ht)).2.2]
        intro e2
        have a := AR_le (hkA t ht)
        have ok2 : okd (kind X) = 41 - kind X := by unfold okd; rw [if_neg (by omega), if_neg (by omega), if_neg (by omega)]
        exact (p3 t ht).1 (okd_inj (by omega) (by omega) (by rw [e2, ok2]))
    have hjn : joinT (41 - kind X) ((kids (dn tb x)).map opp) = opp X := by
      rw [hre, hX]
      unfold oppN
      rw [if_neg (by omega), if_neg (by omega), if_neg (by omega), if_neg (by omega), if_neg (by omega)]
    obtain ⟨id1, M1, tc, e1, f1, i1, d1, l1, s1, o1⟩ := joinKids_ok h (show 41 - kind X = 20 ∨ 41 - kind X = 21 by omega) h1 h2 hB (by omega) (fun _ => ⟨by omega, by omega⟩)
    rw [e1, Option.bind_some]
    rw [hjn] at d1 l1
    exact fin id1 M1 tc f1 i1 d1 l1 (fun c hc => o1 c (by omega))
theorem opposite_69 {tb D : List T} (hD : D.length ≤ 60) {root : Nat} (hr : 16 ≤ root) (hr2 : root < 16 + tb.length) (hr3 : root < 2147483647) :
    ∀ (n x : Nat) (M : Mem) (tc : List T), 16 ≤ x → x ≤ root + 1 → root + 1 - x < n → FT M (tb ++ tc) → PT D (tb ++ tc) → BC M (tb ++ tc) opp x →
    ∃ (y : Nat) (M' : Mem) (tc : List T), f_X0_opposite_69 n (nI root) (nI x) M = some (nI y, M') ∧ FT M' (tb ++ tc) ∧ PT D (tb ++ tc) ∧ y < 16 + (tb ++ tc).length ∧ dn (tb ++ tc) y = opp (dn tb root) ∧ ∀ c, c = 0 ∨ 17 ≤ c → M' c = M c := by
  intro n
  induction n with
  | zero => intro x M tc _ _ h; omega
  | succ n ih =>
    intro x M tc hx hxr hn hF hP hB
    have hl := hF.2.1
    rw [List.length_append] at hl
    rcases Nat.lt_or_ge root x with e | e
    · obtain ⟨y, a, b, c⟩ := hB root e
      rw [dn_app hr2] at c
      have : x = root + 1 := by omega
      subst this
      refine ⟨y, M, tc, ?_, hF, hP, a, c, fun _ _ => rfl⟩
      rw [f_X0_opposite_69]
      simp (disch := omega) only [nlt, show root < root + 1 by omega, if_true, mrd_n, Option.bind_some, b]
    · obtain ⟨M1, td, e1, f1, b1, p1, o1⟩ := opposite_step hF hD hP hx (by rw [List.length_append]; omega) hB n root e (by omega)
      rw [e1]
      rw [List.append_assoc] at f1 b1 p1
      obtain ⟨y, M2, te, e2, f2, p2, y2, d2, o2⟩ := ih (x + 1) M1 (tc ++ td) (by omega) (by omega) (by omega) f1 p1 b1
      exact ⟨y, M2, te, e2, f2, p2, y2, d2, fun c hc => by rw [o2 c hc, o1 c hc]⟩
theorem opposite_30 {root : Nat} : ∀ (n i : Nat) (M : Mem), i ≤ 6 → 6 - i < n → (∀ k, k < 4 ∨ (4 ≤ k ∧ k < 4 + i) ∨ (10 ≤ k ∧ k < 10 + i) → M 14 k = nI (opk k)) →
    ∃ M', f_X0_opposite_30 n (nI root) (nI i) M = f_X0_opposite_69 fuelN (nI root) (nI 16) M' ∧ (∀ k, k < 16 → M' 14 k = nI (opk k)) ∧ ∀ c, c ≠ 14 → M' c = M c := by
  intro n
  induction n with
  | zero => intro i M _ h; omega
  | succ n ih =>
    intro i M hi hn hM
    rw [f_X0_opposite_30]
    rcases Nat.lt_or_ge i 6 with e | e
    · simp (disch := omega) only [nlt, e, if_true, nI_add, mst_n, Option.bind_some]
      obtain ⟨M', e1, e2, e3⟩ := ih (i + 1) (mwr (mwr M 14 (4 + i) (nI (10 + i))) 14 (10 + i) (nI (4 + i))) (by omega) (by omega) (fun k hk => by
        by_cases h1 : k = 10 + i
        · rw [h1, mwr_at]
          unfold opk
          rw [if_neg (by omega), if_neg (by omega), if_neg (by omega), show 10 + i - 6 = 4 + i by omega]
        · rw [mwr_in _ h1]
          by_cases h2 : k = 4 + i
          · rw [h2, mwr_at]
            unfold opk
            rw [if_neg (by omega), if_neg (by omega), if_pos (by omega), show 4 + i + 6 = 10 + i by omega]
          · rw [mwr_in _ h2]
            exact hM k (by omega))
      exact ⟨M', e1, e2, fun c hc => by rw [e3 c hc, mwr_ne _ _ _ hc, mwr_ne _ _ _ hc]⟩
    · have : i = 6 := by omega
      subst this
      refine ⟨M, ?_, fun k hk => hM k (by omega), fun _ _ => rfl⟩
      simp +decide (disch := omega) only [nlt, if_false]
theorem opk_lt {k : Nat} (h : k < 16) : opk k < 16 := by
  unfold opk
  repeat' split
  all_goals omega
