/-! the model: the opposite of a form -/
theorem turned_ok {M : Mem} {tb D : List T} (h : MT M tb) (hD : D.length ≤ 60) (hP : PT D tb) {x : Nat} {t : T} (h1 : 16 ≤ x) (h2 : x < 16 + tb.length) (hB : BM M tb opp t x) (ht : dn tb x ∈ subl t) :
    ∃ (y : Nat) (M' : Mem) (tc : List T), f_X7_turned (nI x) M = some (nI y, M') ∧ MT M' (tb ++ tc) ∧ PT D (tb ++ tc) ∧ y < 16 + (tb ++ tc).length ∧ dn (tb ++ tc) y = opp (dn tb x) ∧ FB M M' := by
  have aa := (h.2.2.2.2.2.1 x h2).1
  have hA := MT_AR h h2
  have hAl := AR_le hA
  have hk16 := (dn_kind h.1 h2).2 h1
  have hre := opp_eq (dn tb x)
  have hP0 := hP _ (dn_mem h1 h2)
  have hPo := PT_opp h.1 hP (dn_mem h1 h2)
  have hc := PT_cap h.1 hP
  have hls := lsum_le tb
  have hkA : ∀ t ∈ kids (dn tb x), AR t = true := fun t ht => AR_kid hA ht
  have hsub : ∀ y ∈ kids (dn tb x), y ∈ subl t := fun y hy => subl_kid ht hy
  obtain ⟨n1, n2⟩ := MT_node h h1 h2
  have hjA := fun (k : Nat) (hk : k = 20 ∨ k = 21) (hk20 : 20 ≤ kind (dn tb x)) (hw) (hcap) => mputAll_ok h hk h1 h2 hk20 hB ht hw hcap
  generalize hX : dn tb x = X at *
  have fin : ∀ {id1 : Nat} {M1 : Mem} {tc : List T}, MT M1 (tb ++ tc) → id1 < 16 + (tb ++ tc).length → dn (tb ++ tc) id1 = opp X → (tc = [] ∨ tc = [opp X]) → FB M M1 →
      ∃ (y : Nat) (M' : Mem) (tc : List T), some (nI id1, M1) = some (nI y, M') ∧ MT M' (tb ++ tc) ∧ PT D (tb ++ tc) ∧ y < 16 + (tb ++ tc).length ∧ dn (tb ++ tc) y = opp X ∧ FB M M' := by
    intro id1 M1 tc f1 i1 d1 l1 o1
    refine ⟨id1, M1, tc, rfl, f1, ?_, i1, d1, o1⟩
    rcases l1 with rfl | rfl
    · rw [List.append_nil]; exact hP
    · exact PT_snoc hP hPo
  unfold f_X7_turned
  simp (disch := omega) only [mrd_n, Option.bind_some, aa, neq]
  by_cases k20 : kind X < 20
  · clear hjA
    obtain ⟨a, b, ha, hb, q1, q2, q3, q4⟩ := n1 k20
    have mk : ∀ {j : Nat}, 16 ≤ j → j ≤ 19 → ∀ {u v : Nat}, u < 16 + tb.length → v < 16 + tb.length → (j < 18 → v = 0) → opp X = nd j (prs j (dn tb u) (dn tb v)) → ∃ (y : Nat) (M' : Mem) (tc : List T), ((f_X7_make (nI (j - 15)) (nI u) (nI v) M).bind fun q5 => some (q5.1, q5.2)) = some (nI y, M') ∧ MT M' (tb ++ tc) ∧ PT D (tb ++ tc) ∧ y < 16 + (tb ++ tc).length ∧ dn (tb ++ tc) y = opp X ∧ FB M M' := by
      intro j hj1 hj2 u v hu hv h0 e
      obtain ⟨id1, M1, tc, e1, f1, i1, d1, l1, o1, -⟩ := mmake_ok h hj1 hj2 hu hv h0 (fun _ => by omega)
      rw [e1, Option.bind_some]
      rw [← e] at d1 l1
      exact fin f1 i1 d1 (by rcases l1 with l1 | l1; exact Or.inl l1; exact Or.inr l1.1) o1.fb
    have kk : kind X = 16 ∨ kind X = 17 ∨ kind X = 18 ∨ kind X = 19 := by omega
    rcases kk with k1 | k1 | k1 | k1
    · have q : kids X = [dn tb a] := by rw [q3, k1]; rfl
      obtain ⟨y0, y0a, y0b, y0c⟩ := hB a ha (Or.inr (hsub _ (by rw [q]; simp)))
      simp +decide (disch := omega) only [k1, if_true, if_false, mrd_n, Option.bind_some, q1, q2, y0b]
      exact mk (j := 17) (by omega) (by omega) y0a (show 0 < 16 + tb.length by omega) (fun _ => rfl) (by rw [hre, k1, q, y0c]; rfl)
    · have q : kids X = [dn tb a] := by rw [q3, k1]; rfl
      obtain ⟨y0, y0a, y0b, y0c⟩ := hB a ha (Or.inr (hsub _ (by rw [q]; simp)))
      simp +decide (disch := omega) only [k1, if_true, if_false, mrd_n, Option.bind_some, q1, q2, y0b]
      exact mk (j := 16) (by omega) (by omega) y0a (show 0 < 16 + tb.length by omega) (fun _ => rfl) (by rw [hre, k1, q, y0c]; rfl)
    · have q : kids X = [dn tb a, dn tb b] := by rw [q3, k1]; rfl
      obtain ⟨y0, y0a, y0b, y0c⟩ := hB a ha (Or.inr (hsub _ (by rw [q]; simp)))
      obtain ⟨y1, y1a, y1b, y1c⟩ := hB b hb (Or.inr (hsub _ (by rw [q]; simp)))
      simp +decide (disch := omega) only [k1, if_true, if_false, mrd_n, Option.bind_some, q1, q2, y0b, y1b]
      exact mk (j := 19) (by omega) (by omega) y0a y1a (fun q => by omega) (by rw [hre, k1, q, y0c, y1c]; rfl)
    · have q : kids X = [dn tb a, dn tb b] := by rw [q3, k1]; rfl
      obtain ⟨y0, y0a, y0b, y0c⟩ := hB a ha (Or.inr (hsub _ (by rw [q]; simp)))
      obtain ⟨y1, y1a, y1b, y1c⟩ := hB b hb (Or.inr (hsub _ (by rw [q]; simp)))
      simp +decide (disch := omega) only [k1, if_true, if_false, mrd_n, Option.bind_some, q1, q2, y0b, y1b]
      exact mk (j := 18) (by omega) (by omega) y0a y1a (fun q => by omega) (by rw [hre, k1, q, y0c, y1c]; rfl)
  · have k1 : kind X = 20 ∨ kind X = 21 := by omega
    have p3 := (NF_pln hP0.1 k1).2.2
    have hnm : nkid X ≤ 60 := by
      have := nkid_MW hA
      have := hP0.2.1
      omega
    have hww : (((kids X).map opp).map (wdt (41 - kind X))).sum ≤ nkid X := by
      have : ∀ l : List T, (∀ t ∈ l, wdt (41 - kind X) (opp t) ≤ 1) → ((l.map opp).map (wdt (41 - kind X))).sum ≤ l.length := by
        intro l
        induction l with
        | nil => intro _; exact Nat.le_refl _
        | cons a l ih2 =>
          intro h
          have h1 := h a List.mem_cons_self
          have h2 := ih2 (fun t ht => h t (List.mem_cons_of_mem _ ht))
          simp only [List.map_cons, List.sum_cons, List.length_cons]
          omega
      refine this _ (fun t ht => ?_)
      unfold wdt
      rw [if_neg]
      · exact Nat.le_refl _
      · rw [(opp_NF t (hkA t ht) (NF_kid hP0.1 ht)).2.2]
        intro e2
        have a := AR_le (hkA t ht)
        have ok2 : okd (kind X) = 41 - kind X := by unfold okd; rw [if_neg (by omega), if_neg (by omega), if_neg (by omega)]
        exact (p3 t ht).1 (okd_inj (by omega) (by omega) (by rw [e2, ok2]))
    have hjn : joinT (41 - kind X) ((kids X).map opp) = opp X := by
      rw [hre]
      unfold oppN
      rw [if_neg (by omega), if_neg (by omega), if_neg (by omega), if_neg (by omega), if_neg (by omega)]
    obtain ⟨id1, M1, tc, e1, f1, i1, d1, l1, o1⟩ := hjA (41 - kind X) (by omega) (by omega) (by omega) (fun _ => ⟨by omega, by omega⟩)
    rw [hjn] at d1 l1
    have l1' : tc = [] ∨ tc = [opp X] := by rcases l1 with l1 | l1; exact Or.inl l1; exact Or.inr l1.1
    rcases k1 with k1 | k1
    · rw [k1] at e1
      simp +decide (disch := omega) only [k1, if_true, if_false]
      rw [show nI 6 = nI (41 - 20 - 15) from rfl, e1, Option.bind_some]
      exact fin f1 i1 d1 l1' o1
    · rw [k1] at e1
      simp +decide (disch := omega) only [k1, if_true, if_false]
      rw [show nI 5 = nI (41 - 21 - 15) from rfl, e1, Option.bind_some]
      exact fin f1 i1 d1 l1' o1
theorem mopp_7 {tb0 D : List T} (hD : D.length ≤ 60) {form : Nat} (hf : form < 16 + tb0.length) :
    ∀ (n k : Nat) (M : Mem) (tc : List T), MT M (tb0 ++ tc) → PT D (tb0 ++ tc) → k ≤ form + 17 → (k ≤ form + 1 ∨ k ≤ 16) → form + 17 - k < n → MK M form (fun j => dn (tb0 ++ tc) j ∈ subl (dn tb0 form)) → BM M (tb0 ++ tc) opp (dn tb0 form) k →
    ∃ (y : Nat) (M' : Mem) (td : List T), f_X7_opposite_7 n (nI form) (nI k) M = some (nI y, M') ∧ MT M' (tb0 ++ td) ∧ PT D (tb0 ++ td) ∧ y < 16 + (tb0 ++ td).length ∧ dn (tb0 ++ td) y = opp (dn tb0 form) ∧ FW M M' := by
  intro n
  induction n with
  | zero => intro k M tc _ _ _ _ h; omega
  | succ n ih =>
    intro k M tc h hP hk1 hk2 hn hmk hB
    have hl := h.2.1
    have hlen : (tb0 ++ tc).length = tb0.length + tc.length := List.length_append
    rw [f_X7_opposite_7]
    unfold f_X7_opposite_18 f_X7_opposite_44 f_X7_opposite_68
    have leaf : k < 16 → ∀ v : Nat, v = opk k → ∃ (y : Nat) (M' : Mem) (td : List T), ((mst M 227 8000 (nI k) (nI v)).bind fun M1 => f_X7_opposite_7 n (nI form) (nI k + nI 1) M1) = some (nI y, M') ∧ MT M' (tb0 ++ td) ∧ PT D (tb0 ++ td) ∧ y < 16 + (tb0 ++ td).length ∧ dn (tb0 ++ td) y = opp (dn tb0 form) ∧ FW M M' := by
      intro hk v hv
      have hvl := opk_lt hk
      rw [mst_n (by omega) (by omega), Option.bind_some, nI_add]
      obtain ⟨y, M', td, e1, f1, p1, i1, d1, o1⟩ := ih (k + 1) (mwr M 227 k (nI v)) tc (h.fb227 k _) hP (by omega) (by omega) (by omega) (fun j hj => by rw [mwr_off _ _ _ (by omega)]; exact hmk j hj) (hB.set (by omega) (by rw [dn_lf hk, opp_lf hk, dn_lf (by omega), hv]))
      exact ⟨y, M', td, e1, f1, p1, i1, d1, FW.tr ⟨fun c hc => by rw [mwr_ne _ _ _ (by omega)], fun i hi => by rw [mwr_off _ _ _ (by omega)]⟩ o1⟩
    by_cases q1 : k < 16
    · have hcond : ∀ A B : Option Rv, (if nI form < nI k then if nI k < nI 16 then A else B else A) = A := fun A B => by
        rw [if_pos (show nI k < nI 16 from (nlt (by omega) (by omega)).mpr q1)]
        split <;> rfl
      rw [hcond, if_pos ((nlt (by omega) (by omega)).mpr q1)]
      by_cases q2 : k < 2
      · rw [if_pos ((nlt (by omega) (by omega)).mpr q2), nsub (by omega)]
        exact leaf q1 _ (by unfold opk; rw [if_pos q2])
      · rw [if_neg (fun q => q2 ((nlt (by omega) (by omega)).mp q)), counter_ok (by omega) (by omega), Option.bind_some, if_pos q1]
        exact leaf q1 _ rfl
    · by_cases q2 : form < k
      · rw [if_pos ((nlt (by omega) (by omega)).mpr q2), if_neg (fun q => q1 ((nlt (by omega) (by omega)).mp q))]
        obtain ⟨y, y1, y2, y3⟩ := hB form q2 (Or.inr (by rw [dn_app hf]; exact subl_self _))
        rw [mrd_n (by omega) (by omega), Option.bind_some, y2]
        exact ⟨y, M, tc, rfl, h, hP, y1, by rw [y3, dn_app hf], FW.rfl' M⟩
      · rw [if_neg (fun q => q2 ((nlt (by omega) (by omega)).mp q)), if_neg (fun q => q1 ((nlt (by omega) (by omega)).mp q))]
        rw [mrd_n (by omega) (by omega), Option.bind_some]
        by_cases hm : dn (tb0 ++ tc) k ∈ subl (dn tb0 form)
        · rw [(hmk k (Or.inr (by omega))).1 hm, if_neg (by decide)]
          obtain ⟨y, M1, td, e1, f1, p1, i1, d1, o1⟩ := turned_ok h hD hP (by omega) (by omega) hB hm
          rw [e1, Option.bind_some, mst_n (by omega) (by omega), Option.bind_some, nI_add]
          have hB1 : BM M1 (tb0 ++ tc ++ td) opp (dn tb0 form) k := hB.app (by omega) (o1.1 227 (by omega))
          have hdk : dn (tb0 ++ tc ++ td) k = dn (tb0 ++ tc) k := dn_app (by omega)
          have hB2 := hB1.set i1 (by rw [d1, hdk])
          rw [List.append_assoc] at f1 hB2 i1 d1 p1
          obtain ⟨z, M', te, e2, f2, p2, i2, d2, o2⟩ := ih (k + 1) (mwr M1 227 k (nI y)) (tc ++ td) (f1.fb227 k _) p1 (by omega) (by omega) (by omega) (fun j hj => by
            rw [mwr_off _ _ _ (by omega), o1.1 228 (by omega)]
            have := hmk j hj
            have e : dn (tb0 ++ (tc ++ td)) j = dn (tb0 ++ tc) j := by rw [← List.append_assoc]; exact dn_app (by omega)
            simp only [e]
            exact this) hB2
          exact ⟨z, M', te, e2, f2, p2, i2, d2, o1.fw.tr (FW.tr ⟨fun c hc => by rw [mwr_ne _ _ _ (by omega)], fun i hi => by rw [mwr_off _ _ _ (by omega)]⟩ o2)⟩
        · rw [(hmk k (Or.inr (by omega))).2 hm, if_pos rfl, nI_add]
          exact ih (k + 1) M tc h hP (by omega) (by omega) (by omega) hmk (hB.skip (by omega) hm)
theorem mopposite_ok {M : Mem} {tb D : List T} (h : MT M tb) (hD : D.length ≤ 60) (hP : PT D tb) {form : Nat} (hf : form < 16 + tb.length) :
    ∃ (y : Nat) (M' : Mem) (tc : List T), f_X7_opposite (nI form) M = some (nI y, M') ∧ MT M' (tb ++ tc) ∧ PT D (tb ++ tc) ∧ y < 16 + (tb ++ tc).length ∧ dn (tb ++ tc) y = opp (dn tb form) ∧ FW M M' := by
  have hl := h.2.1
  unfold f_X7_opposite
  obtain ⟨M1, e1, f1, g1, o1⟩ := mark_ok h hf
  rw [e1, Option.bind_some]
  obtain ⟨y, M2, td, e2, f2, p2, i2, d2, o2⟩ := mopp_7 hD hf fuelN 0 M1 [] (by rw [List.append_nil]; exact f1) (by rw [List.append_nil]; exact hP) (by omega) (by omega) (by unfold fuelN; omega) (by rw [List.append_nil]; exact g1) (fun i hi => by omega)
  exact ⟨y, M2, td, e2, f2, p2, i2, d2, FW.tr ⟨fun c hc => o1 c (by omega), fun i hi => by rw [o1 218 (by omega)]⟩ o2⟩
