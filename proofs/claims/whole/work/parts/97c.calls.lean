/-! THE RELATION, and the plain calls -/
def RelM (M : Mem) (a : Abs) : Prop := RM (M 219) a.1 ∧ RMh M a.2.1 ∧ (∀ s, a.2.2.1 = some s → RM (M 221) s) ∧ M 218 24 = nI a.2.1.length ∧ M 218 25 = bI a.2.2.1.isSome ∧ M 218 23 = nI a.2.2.2.length ∧ ∀ i (h : i < a.2.2.2.length), M 234 i = nI a.2.2.2[i]
theorem RelM.keep {M M' : Mem} {a : Abs} (h : RelM M a) (hm : ∀ c, c = 219 ∨ c = 220 ∨ c = 221 ∨ c = 234 → M' c = M c) (h8 : ∀ i, 20 ≤ i → M' 218 i = M 218 i) : RelM M' a := by
  obtain ⟨a1, a2, a3, a4, a5, a6, a7⟩ := h
  refine ⟨by rw [hm 219 (by omega)]; exact a1, fun i hi => by rw [hm 220 (by omega)]; exact a2 i hi, fun s hs => by rw [hm 221 (by omega)]; exact a3 s hs, by rw [h8 24 (by omega)]; exact a4, by rw [h8 25 (by omega)]; exact a5, by rw [h8 23 (by omega)]; exact a6, fun i hi => by rw [hm 234 (by omega)]; exact a7 i hi⟩
theorem RelM.fw {M M' : Mem} {a : Abs} (h : RelM M a) (f : FW M M') : RelM M' a := h.keep (fun c hc => f.1 c (by omega)) (fun i hi => f.2 i (by omega))
theorem RelC'.fq {M M' : Mem} {a : Abs} {cn cs : Nat} {ch : Nat → Nat} {tb tb' : List T} (h : RelC' M a cn cs ch tb) (hA : okA a) (f : FQ M M') (hF : FT M' tb') : RelC' M' a cn cs ch tb' := h.keep hA (fun c hc => f c (by omega)) (by rw [f 22 (by omega)]) hF
def Rel (MC MM : Mem) : Prop := ∃ a, okA a ∧ RelC MC a ∧ RelM MM a
/-- both sides answer the same, and stand for a' -/
def Same (o1 o2 : Option Rv) : Prop := ∃ (v : Int32) (MC' MM' : Mem) (a' : Abs), o1 = some (v, MC') ∧ o2 = some (v, MM') ∧ okA a' ∧ RelC MC' a' ∧ RelM MM' a'
theorem stp_of {f g : Mem → Option Rv} (h : ∀ (MC MM : Mem) (a : Abs), okA a → RelC MC a → RelM MM a → Same (f MC) (g MM)) : stp Rel f g := fun MC MM ⟨a, h1, h2, h3⟩ => by
  obtain ⟨v, MC', MM', a', e1, e2, r⟩ := h MC MM a h1 h2 h3
  exact ⟨v, MC', MM', e1, e2, a', r⟩
theorem mi2c_n (x : Int32) : ∃ q, q < 65536 ∧ mi2c x = nI q := ⟨_, Nat.mod_lt _ (by omega), pk_char x⟩
theorem s_type (x : Int32) : stp Rel (f_X6_type (mi2c x)) (f_X7_type (mi2c x)) := by
  obtain ⟨q, hq, e⟩ := mi2c_n x
  rw [e]
  refine stp_of (fun MC MM a hA hC hM => ?_)
  obtain ⟨cn, cs, ch, tb, hC⟩ := hC
  have h5 := hC.2.2.2.2.2.2.2.1
  have h23 := hC.2.2.2.2.2.2.2.2
  obtain ⟨m1, m2, m3, m4, m5, m6, m7⟩ := id hM
  have hl := hA.2.2.2.2.1
  unfold f_X6_type f_X6_type_23 f_X2_append f_X7_type
  rw [h5, m6]
  by_cases hlt : a.2.2.2.length < 60
  · rw [if_pos ((nlt (by omega) (by omega)).mpr hlt), if_neg (fun p => by have := (neq (by omega) (by omega)).mp p; omega), nc_n hq, mst_n hlt (by omega), Option.bind_some, mst_n hlt (by omega), Option.bind_some]
    rw [mwr_off _ _ _ (show (22 : Nat) ≠ 23 by omega), h5, nI_add, mpi_n, Option.bind_some, mrz_1, Option.bind_some, mwr_off _ _ _ (show (218 : Nat) ≠ 234 by omega), m6, nI_add, mpi_n, Option.bind_some]
    dsimp only
    rw [if_neg (by decide), mwr_at, mwr_at]
    refine ⟨_, _, _, (a.1, a.2.1, a.2.2.1, a.2.2.2 ++ [q]), rfl, rfl, ⟨hA.1, hA.2.1, hA.2.2.1, hA.2.2.2.1, by rw [List.length_append]; simp; omega, fun c hc => ?_⟩, ⟨cn, cs, ch, tb, ?_⟩, ?_⟩
    · rcases List.mem_append.mp hc with hc | hc
      · exact hA.2.2.2.2.2 c hc
      · rw [List.mem_singleton.mp hc]; exact hq
    · obtain ⟨⟨c1, c2, c3, c4, c5, c6, c7⟩, r0, r1, r2, r3, r4, r5, r6, r7⟩ := hC
      have hm : ∀ c, c ≠ 22 → c ≠ 23 → mwr (mwr MC 23 a.2.2.2.length (nI q)) 22 5 (nI (a.2.2.2.length + 1)) c = MC c := fun c p1 p2 => by rw [mwr_ne _ _ _ p1, mwr_ne _ _ _ p2]
      have g4 := isSc_ge c4.1
      refine ⟨⟨by rw [hm 0 (by omega) (by omega)]; exact c1, by rw [hm 0 (by omega) (by omega)]; exact c2, fun i hi => by rw [hm 28 (by omega) (by omega)]; exact c3 i hi, c4, c5, c6, c7⟩, r0.congr (fun c p1 p2 => hm c (by omega) (by omega)), r1.congr hA.1 (fun d p1 p2 => hm d (by omega) (by omega)), fun i hi => (r2 i hi).congr (hA.2.2.1 _ (List.getElem_mem hi)) (fun d p1 p2 => by
        have := isSc_ge (c6 i (by have := hA.2.1; dsimp only at hi; omega)).1
        exact hm d (by omega) (by omega)), fun s hs => (r3 s hs).congr (hA.2.2.2.1 s hs) (fun d p1 p2 => hm d (by omega) (by omega)), by rw [hm 0 (by omega) (by omega)]; exact r4, by rw [hm 0 (by omega) (by omega)]; exact r5, by rw [mwr_at, List.length_append]; rfl, fun i hi => ?_⟩
      dsimp only at hi ⊢
      rw [List.length_append, List.length_singleton] at hi
      by_cases p : i = a.2.2.2.length
      · subst p
        rw [List.getElem_concat_length (by rfl), mwr_off _ _ _ (by omega), mwr_at]
        exact ⟨hq, rfl⟩
      · rw [List.getElem_append_left (by omega), mwr_off _ _ _ (by omega), mwr_in _ (by omega)]
        exact r7 i (by omega)
    · have hm : ∀ c, c ≠ 218 → c ≠ 234 → mwr (mwr MM 234 a.2.2.2.length (nI q)) 218 23 (nI (a.2.2.2.length + 1)) c = MM c := fun c p1 p2 => by rw [mwr_ne _ _ _ p1, mwr_ne _ _ _ p2]
      have h8 : ∀ i, i ≠ 23 → mwr (mwr MM 234 a.2.2.2.length (nI q)) 218 23 (nI (a.2.2.2.length + 1)) 218 i = MM 218 i := fun i hi => by rw [mwr_in _ hi, mwr_off _ _ _ (by omega)]
      refine ⟨by rw [hm 219 (by omega) (by omega)]; exact m1, fun i hi => by rw [hm 220 (by omega) (by omega)]; exact m2 i hi, fun s hs => by rw [hm 221 (by omega) (by omega)]; exact m3 s hs, by rw [h8 24 (by omega)]; exact m4, by rw [h8 25 (by omega)]; exact m5, by rw [mwr_at, List.length_append]; rfl, fun i hi => ?_⟩
      dsimp only at hi ⊢
      rw [List.length_append, List.length_singleton] at hi
      by_cases p : i = a.2.2.2.length
      · subst p
        rw [List.getElem_concat_length (by rfl), mwr_off _ _ _ (by omega), mwr_at]
      · rw [List.getElem_append_left (by omega), mwr_off _ _ _ (by omega), mwr_in _ (by omega)]
        exact m7 i (by omega)
  · rw [if_neg (fun p => hlt ((nlt (by omega) (by omega)).mp p)), if_pos (by rw [show a.2.2.2.length = 60 by omega]), mrz_0, Option.bind_some]
    dsimp only
    rw [bI_f, if_pos rfl]
    exact ⟨_, _, _, a, rfl, rfl, hA, ⟨cn, cs, ch, tb, hC⟩, hM⟩
theorem s_clear : stp Rel f_X6_clearText f_X7_clearText := by
  refine stp_of (fun MC MM a hA hC hM => ?_)
  obtain ⟨cn, cs, ch, tb, hC⟩ := hC
  have h5 := hC.2.2.2.2.2.2.2.1
  obtain ⟨m1, m2, m3, m4, m5, m6, m7⟩ := id hM
  unfold f_X6_clearText f_X7_clearText
  rw [mpi_n, Option.bind_some, mpi_n, Option.bind_some, h5, m6]
  refine ⟨_, _, _, (a.1, a.2.1, a.2.2.1, []), rfl, rfl, ⟨hA.1, hA.2.1, hA.2.2.1, hA.2.2.2.1, by simp, (fun c hc => by cases hc)⟩, ⟨cn, cs, ch, tb, ?_⟩, ?_⟩
  · obtain ⟨⟨c1, c2, c3, c4, c5, c6, c7⟩, r0, r1, r2, r3, r4, r5, r6, r7⟩ := hC
    have hm : ∀ c, c ≠ 22 → mwr MC 22 5 (nI 0) c = MC c := fun c p1 => by rw [mwr_ne _ _ _ p1]
    have g4 := isSc_ge c4.1
    exact ⟨⟨by rw [hm 0 (by omega)]; exact c1, by rw [hm 0 (by omega)]; exact c2, fun i hi => by rw [hm 28 (by omega)]; exact c3 i hi, c4, c5, c6, c7⟩, r0.congr (fun c p1 p2 => hm c (by omega)), r1.congr hA.1 (fun d p1 p2 => hm d (by omega)), fun i hi => (r2 i hi).congr (hA.2.2.1 _ (List.getElem_mem hi)) (fun d p1 p2 => by
      have := isSc_ge (c6 i (by have := hA.2.1; dsimp only at hi; omega)).1
      exact hm d (by omega)), fun s hs => (r3 s hs).congr (hA.2.2.2.1 s hs) (fun d p1 p2 => hm d (by omega)), by rw [hm 0 (by omega)]; exact r4, by rw [hm 0 (by omega)]; exact r5, by rw [mwr_at]; rfl, fun i hi => by simp at hi⟩
  · have h8 : ∀ i, i ≠ 23 → mwr MM 218 23 (nI 0) 218 i = MM 218 i := fun i hi => by rw [mwr_in _ hi]
    exact ⟨by rw [mwr_ne _ _ _ (by omega)]; exact m1, fun i hi => by rw [mwr_ne _ _ _ (by omega)]; exact m2 i hi, fun s hs => by rw [mwr_ne _ _ _ (by omega)]; exact m3 s hs, by rw [h8 24 (by omega)]; exact m4, by rw [h8 25 (by omega)]; exact m5, by rw [mwr_at]; rfl, fun i hi => by simp at hi⟩
theorem same_of {MC MM : Mem} {a : Abs} (hA : okA a) (hC : RelC MC a) (hM : RelM MM a) (v : Int32) : Same (some (v, MC)) (some (v, MM)) := ⟨v, MC, MM, a, rfl, rfl, hA, hC, hM⟩
theorem neg_lt {x : Int32} {n : Nat} (hn : n < 1000000) : x < 0 ∨ (¬ x < nI 0 ∧ ¬ x < nI n) ∨ ∃ k, k < n ∧ x = nI k := by
  rcases pk_ix x (n := n) (by omega) with q | q | q
  · exact Or.inl q
  · refine Or.inr (Or.inl ⟨fun p => ?_, fun p => ?_⟩)
    · have a := lt_toInt.mp p
      have b := Int32.le_iff_toInt_le.mp q
      rw [nI_toInt (by omega)] at a b
      omega
    · have a := lt_toInt.mp p
      have b := Int32.le_iff_toInt_le.mp q
      omega
  · exact Or.inr (Or.inr q)
theorem s_at (x : Int32) : stp Rel (f_X6_at x) (f_X7_at x) := by
  refine stp_of (fun MC MM a hA hC hM => ?_)
  have hC0 := hC
  obtain ⟨cn, cs, ch, tb, hC⟩ := hC
  obtain ⟨⟨c1, c2, c3, c4, c5, c6, c7⟩, r0, r1, r2, r3, r4, r5, r6, r7⟩ := id hC
  obtain ⟨m1, m2, m3, m4, m5, m6, m7⟩ := id hM
  have h40 := hA.1.1
  unfold f_X6_at f_X6_at_32 f_X7_at f_X7_at_32
  rcases neg_lt (x := x) (n := a.1.2.1.length) (by omega) with q | ⟨q1, q2⟩ | ⟨k, hk, rfl⟩
  · rw [if_pos (show x < nI 0 from q), if_pos (show x < nI 0 from q)]
    exact same_of hA hC0 hM _
  · rw [if_neg q1, if_neg q1, c1, mlS_ok c4.1, Option.bind_some, Option.bind_some, r1.2.1, if_neg q2, mrd_n (by omega) (by omega), Option.bind_some, m1.1, if_neg q2]
    exact same_of hA hC0 hM _
  · rw [if_neg (neg_n (by omega)), if_neg (neg_n (by omega)), c1, mlS_ok c4.1, Option.bind_some, Option.bind_some, r1.2.1, if_pos ((nlt (by omega) (by omega)).mpr hk), mrd_n (by omega) (by omega), Option.bind_some, mrd_n (by omega) (by omega), Option.bind_some, m1.1, if_pos ((nlt (by omega) (by omega)).mpr hk), nI_add, mrd_n (by omega) (by omega), Option.bind_some, r1.2.2.2.1 k hk, m1.2.2.2.1 k hk]
    exact same_of hA hC0 hM _
/-! counts in the model -/
def thm (s : Sta) : Nat → Nat
  | 0 => 0
  | n + 1 => thm s n + one (thk s n)
theorem thm_succ (s : Sta) (n : Nat) : thm s (n + 1) = thm s n + one (thk s n) := rfl
theorem thm_le (s : Sta) : ∀ n, thm s n ≤ n := by
  intro n
  induction n with
  | zero => exact Nat.le_refl _
  | succ n ih =>
    rw [thm_succ]
    have h1 : ∀ b : Bool, one b ≤ 1 := fun b => by cases b <;> decide
    have := h1 (thk s n)
    omega
theorem there_4 {M : Mem} {s : Sta} (h : RM (M 219) s) (hs : okS s) : ∀ (n k : Nat), k ≤ 8 → 8 - k < n → f_X7_thereMany_4 n (nI (thm s k)) (nI k) M = some (nI (thm s 8), M) := by
  intro n
  induction n with
  | zero => intro k _ h; omega
  | succ n ih =>
    intro k h1 h2
    rw [f_X7_thereMany_4]
    unfold f_X7_thereMany_24
    by_cases hk : k < 8
    · rw [if_pos ((nlt (by omega) (by omega)).mpr hk), isThere_k h hs (by omega), Option.bind_some]
      dsimp only
      have e := ih (k + 1) (by omega) (by omega)
      rw [thm_succ] at e
      simp only [bI_0', nI_add]
      cases q : thk s k with
      | true => rw [q] at e; rw [if_neg (by decide)]; exact e
      | false => rw [q] at e; rw [if_pos rfl]; exact e
    · have : k = 8 := by omega
      subst this
      rw [if_neg (by decide)]
theorem thereMany_ok {M : Mem} {s : Sta} (h : RM (M 219) s) (hs : okS s) : f_X7_thereMany M = some (nI (thm s 8), M) :=
  there_4 h hs fuelN 0 (by omega) (by unfold fuelN; omega)
theorem thr_thm {s : Sta} (hs : okS s) : thr s = thm s 8 := by
  have h : ∀ n, n ≤ s.2.2.length → hmv s 0 n + hmv s 1 n + hmv s 2 n = thm s n := by
    intro n
    induction n with
    | zero => intro _; rfl
    | succ n ih =>
      intro hn
      have e := ih (by omega)
      have hk : n < s.2.2.length := by omega
      rw [hmv_succ, hmv_succ, hmv_succ, thm_succ, thk_in hk, List.getElem?_eq_getElem hk]
      dsimp only
      have hv := (hs.2.2.2 s.2.2[n] (List.getElem_mem hk)).1
      have h3 : s.2.2[n].2.1 = 0 ∨ s.2.2[n].2.1 = 1 ∨ s.2.2[n].2.1 = 2 := by omega
      have : one (s.2.2[n].1 && s.2.2[n].2.1 == 0) + one (s.2.2[n].1 && s.2.2[n].2.1 == 1) + one (s.2.2[n].1 && s.2.2[n].2.1 == 2) = one s.2.2[n].1 := by
        rcases h3 with q | q | q <;> rw [q] <;> cases s.2.2[n].1 <;> rfl
      omega
  have h2 : ∀ n, s.2.2.length ≤ n → thm s n = thm s s.2.2.length := by
    intro n
    induction n with
    | zero => intro q; rw [show s.2.2.length = 0 by omega]
    | succ n ih =>
      intro q
      by_cases p : s.2.2.length = n + 1
      · rw [p]
      · rw [thm_succ, ih (by omega)]
        have : thk s n = false := by unfold thk; rw [List.getElem?_eq_none (by omega)]
        rw [this]
        rfl
  unfold thr
  rw [h _ (Nat.le_refl _), h2 8 hs.2.2.1]
def wtm (s : Sta) (v : Nat) : Nat → Nat
  | 0 => 0
  | n + 1 => wtm s v n + one (match s.2.2[n]? with | some w => w.1 && w.2.1 == v | none => false)
theorem wtm_hmv (s : Sta) (v : Nat) : ∀ n, wtm s v n = hmv s v n := by
  intro n
  induction n with
  | zero => rfl
  | succ n ih => rw [hmv_succ, ← ih]; rfl
theorem wth_4 {M : Mem} {s : Sta} (h : RM (M 219) s) (hs : okS s) {v : Nat} (hv : v ≤ 2) : ∀ (n k : Nat), k ≤ 8 → 8 - k < n → f_X7_wishesThat_4 n (nI v) (nI (hmv s v k)) (nI k) M = some (nI (hmv s v 8), M) := by
  intro n
  induction n with
  | zero => intro k _ h; omega
  | succ n ih =>
    intro k h1 h2
    rw [f_X7_wishesThat_4]
    unfold f_X7_wishesThat_32 f_X7_wishesThat_33
    by_cases hk : k < 8
    · rw [if_pos ((nlt (by omega) (by omega)).mpr hk), isThere_k h hs (by omega), Option.bind_some]
      dsimp only
      have e := ih (k + 1) (by omega) (by omega)
      rw [hmv_succ] at e
      simp only [bI_0', nI_add]
      by_cases hkl : k < s.2.2.length
      · have hw := hs.2.2.2 s.2.2[k] (List.getElem_mem hkl)
        rw [List.getElem?_eq_getElem hkl] at e
        dsimp only at e
        have hwv := hw.1
        rw [thk_in hkl]
        cases q : s.2.2[k].1 with
        | true =>
          rw [q, Bool.true_and] at e
          rw [if_neg (by decide), verdict_ok hk (h.2.2.2.2 k hkl), Option.bind_some]
          simp (disch := omega) only [neq]
          by_cases p : s.2.2[k].2.1 = v
          · rw [show (s.2.2[k].2.1 == v) = true by simpa using p] at e
            rw [if_pos p]; exact e
          · rw [show (s.2.2[k].2.1 == v) = false by simpa using p] at e
            rw [if_neg p]; exact e
        | false =>
          rw [q, Bool.false_and] at e
          rw [if_pos rfl]; exact e
      · rw [List.getElem?_eq_none (by omega)] at e
        have : thk s k = false := by unfold thk; rw [List.getElem?_eq_none (by omega)]
        rw [this, if_pos rfl]
        exact e
    · have : k = 8 := by omega
      subst this
      rw [if_neg (by decide)]
theorem hmv_8 {s : Sta} (hs : okS s) (v : Nat) : hmv s v 8 = hmv s v s.2.2.length := by
  have h2 : ∀ n, s.2.2.length ≤ n → hmv s v n = hmv s v s.2.2.length := by
    intro n
    induction n with
    | zero => intro q; rw [show s.2.2.length = 0 by omega]
    | succ n ih =>
      intro q
      by_cases p : s.2.2.length = n + 1
      · rw [p]
      · rw [hmv_succ, ih (by omega), List.getElem?_eq_none (by omega)]
        rfl
  exact h2 8 hs.2.2.1
theorem wishesThat_ok {M : Mem} {s : Sta} (h : RM (M 219) s) (hs : okS s) {v : Nat} (hv : v ≤ 2) : f_X7_wishesThat (nI v) M = some (nI (hmv s v s.2.2.length), M) := by
  rw [← hmv_8 hs]
  exact wth_4 h hs hv fuelN 0 (by omega) (by unfold fuelN; omega)
theorem s_count (x : Int32) : stp Rel (f_X6_count x) (f_X7_count x) := by
  refine stp_of (fun MC MM a hA hC hM => ?_)
  have hC0 := hC
  obtain ⟨cn, cs, ch, tb, hC⟩ := hC
  obtain ⟨⟨c1, c2, c3, c4, c5, c6, c7⟩, r0, r1, r2, r3, r4, r5, r6, r7⟩ := id hC
  obtain ⟨m1, m2, m3, m4, m5, m6, m7⟩ := id hM
  have S := fun v => same_of hA hC0 hM v
  unfold f_X6_count f_X6_count_75 f_X7_count
  rw [c1, mlS_ok c4.1]
  by_cases h0 : x = nI 0
  · rw [if_pos h0, if_pos h0, Option.bind_some, mrd_n (by omega) (by omega), Option.bind_some, r1.2.1, m1.1]; exact S _
  rw [if_neg h0, if_neg h0]
  by_cases h1 : x = nI 1
  · rw [if_pos h1, if_pos h1, Option.bind_some, mrd_n (by omega) (by omega), Option.bind_some, r1.1, m1.2.1]
    cases a.1.1 with
    | true => rw [bI_t, if_neg (by decide)]; exact S _
    | false => rw [bI_f, if_pos rfl]; exact S _
  rw [if_neg h1, if_neg h1]
  by_cases h2 : x = nI 2
  · rw [if_pos h2, if_pos h2, Option.bind_some, howManyThere_ok r1 hA.1, Option.bind_some, thereMany_ok m1 hA.1, Option.bind_some, thr_thm hA.1]; exact S _
  rw [if_neg h2, if_neg h2]
  by_cases h3 : x = nI 3
  · rw [if_pos h3, if_pos h3, Option.bind_some, mrd_n (by omega) (by omega), Option.bind_some, r1.2.2.1, m1.2.2.1]; exact S _
  rw [if_neg h3, if_neg h3]
  by_cases h4 : x = nI 4
  · rw [if_pos h4, if_pos h4, Option.bind_some, howMany_ok r1 hA.1 (by omega), Option.bind_some, wishesThat_ok m1 hA.1 (by omega), Option.bind_some]; exact S _
  rw [if_neg h4, if_neg h4]
  by_cases h5 : x = nI 5
  · rw [if_pos h5, if_pos h5, Option.bind_some, howMany_ok r1 hA.1 (by omega), Option.bind_some, wishesThat_ok m1 hA.1 (by omega), Option.bind_some]; exact S _
  rw [if_neg h5, if_neg h5]
  by_cases h6 : x = nI 6
  · rw [if_pos h6, if_pos h6, Option.bind_some, howMany_ok r1 hA.1 (by omega), Option.bind_some, wishesThat_ok m1 hA.1 (by omega), Option.bind_some]; exact S _
  rw [if_neg h6, if_neg h6]
  by_cases h7 : x = nI 7
  · rw [if_pos h7, if_pos h7, r4, m4]; exact S _
  rw [if_neg h7, if_neg h7]
  by_cases h8 : x = nI 8
  · rw [if_pos h8, if_pos h8, r6, m6]; exact S _
  rw [if_neg h8, if_neg h8]
  exact S _
theorem s_wish (x y : Int32) : stp Rel (f_X6_wish x y) (f_X7_wish x y) := by
  refine stp_of (fun MC MM a hA hC hM => ?_)
  have hC0 := hC
  obtain ⟨cn, cs, ch, tb, hC⟩ := hC
  obtain ⟨⟨c1, c2, c3, c4, c5, c6, c7⟩, r0, r1, r2, r3, r4, r5, r6, r7⟩ := id hC
  obtain ⟨m1, m2, m3, m4, m5, m6, m7⟩ := id hM
  have S := fun v => same_of hA hC0 hM v
  have gn := isSc_ge c4.1
  unfold f_X6_wish f_X7_wish f_X7_wish_148
  rw [c1, mlS_ok c4.1, Option.bind_some]
  rcases find_ok c4.1 r1 hA.1 x with ⟨k, hf, e⟩ | ⟨hno, e⟩
  · rcases isThere_ok m1 hA.1 x with ⟨k', hf', e'⟩ | ⟨hno', -⟩
    · have := fnd_uniq hA.1 hf' hf
      subst this
      obtain ⟨rfl, hk, hth⟩ := hf'
      have h8 := hA.1.2.2.1
      have hw := hA.1.2.2.2 _ (List.getElem_mem hk)
      have rw1 := r1.2.2.2.2 k' hk
      have rw2 := m1.2.2.2.2 k' hk
      have hne : ¬ nI (cn + 3 + 3 * k') = nI 0 := fun q => by have := (neq (by omega) (by omega)).mp q; omega
      rw [e', Option.bind_some]
      dsimp only
      rw [bI_t, if_neg (show ¬ nI 1 = nI 0 by decide), w_ok, Option.bind_some]
      dsimp only
      rw [e, Option.bind_some]
      dsimp only
      rw [if_neg hne, maW_ok c4.1 (by omega)]
      by_cases h0 : y = nI 0
      · rw [if_pos h0, if_pos h0, Option.bind_some, nI_add, mrd_n (by omega) (by omega), Option.bind_some, rw1.2.1, rw2.2.1]; exact S _
      rw [if_neg h0, if_neg h0]
      by_cases h1 : y = nI 1
      · rw [if_pos h1, if_pos h1, Option.bind_some, nI_add, mrd_n (by omega) (by omega), Option.bind_some, rw1.2.2.1, rw2.2.2.2.2.2.1]; exact S _
      rw [if_neg h1, if_neg h1]
      by_cases h2 : y = nI 2
      · rw [if_pos h2, if_pos h2, Option.bind_some, partsThat_ok hw.2.2 rw1.2.2.1 rw1.2.2.2.2.2.2 (by omega), Option.bind_some, mpartsThat_ok (by omega) hw rw2 (by omega), Option.bind_some]; exact S _
      rw [if_neg h2, if_neg h2]
      by_cases h3 : y = nI 3
      · rw [if_pos h3, if_pos h3, Option.bind_some, partsThat_ok hw.2.2 rw1.2.2.1 rw1.2.2.2.2.2.2 (by omega), Option.bind_some, mpartsThat_ok (by omega) hw rw2 (by omega), Option.bind_some]; exact S _
      rw [if_neg h3, if_neg h3]
      by_cases h4 : y = nI 4
      · rw [if_pos h4, if_pos h4, Option.bind_some, nI_add, mrd_n (by omega) (by omega), Option.bind_some, rw1.2.2.2.1, rw2.2.2.1]; exact S _
      rw [if_neg h4, if_neg h4]
      by_cases h5 : y = nI 5
      · rw [if_pos h5, if_pos h5, Option.bind_some, nI_add, mrd_n (by omega) (by omega), Option.bind_some, rw1.2.2.2.2.1, rw2.2.2.2.1]; exact S _
      rw [if_neg h5, if_neg h5]
      by_cases h6 : y = nI 6
      · rw [if_pos h6, if_pos h6, Option.bind_some]
        obtain ⟨MC', tb', e1, f1, o1⟩ := verdictIfEnded_ok (by omega) hw r0 rw1
        have hC' := hC.fq hA o1 f1
        rw [e1, Option.bind_some, verdict_ok (by omega) rw2, Option.bind_some]
        dsimp only
        rw [verdict_ok (by omega) rw2, Option.bind_some]
        have hv := hw.1
        unfold wie
        simp (disch := omega) only [nlt]
        by_cases q : a.1.2.2[k'].2.1 = 2
        · rw [if_pos q, if_neg (show ¬ a.1.2.2[k'].2.1 < 2 by omega)]
          obtain ⟨MM', e2, o2⟩ := areTrue_ok (by omega) hw rw2
          rw [e2, Option.bind_some]
          dsimp only
          have hM' := hM.fw o2
          cases (wP a.1.2.2[k']).all tae with
          | true => rw [bI_t, if_neg (by decide)]; exact same_of hA ⟨cn, cs, ch, tb', hC'⟩ hM' _
          | false => rw [bI_f, if_pos rfl]; exact same_of hA ⟨cn, cs, ch, tb', hC'⟩ hM' _
        · rw [if_neg q, if_pos (show a.1.2.2[k'].2.1 < 2 by omega)]
          exact same_of hA ⟨cn, cs, ch, tb', hC'⟩ hM _
      rw [if_neg h6, if_neg h6]
      by_cases h7 : y = nI 7
      · rw [if_pos h7, if_pos h7, Option.bind_some, sizeOf_ok hw.2.2 rw1.2.2.1 rw1.2.2.2.2.2.2, Option.bind_some]
        obtain ⟨MM', e2, o2⟩ := msizes_ok (by omega) hw rw2
        rw [e2, Option.bind_some]
        exact same_of hA hC0 (hM.fw o2) _
      rw [if_neg h7, if_neg h7]
      by_cases h9 : y = nI 8
      · rw [if_pos h9, if_pos h9, Option.bind_some, nI_add, mrd_n (by omega) (by omega), Option.bind_some, rw1.2.2.2.2.2.1, rw2.2.2.2.2.1]; exact S _
      rw [if_neg h9, if_neg h9]
      exact S _
    · exact absurd hf (hno' k)
  · rcases isThere_ok m1 hA.1 x with ⟨k', hf', -⟩ | ⟨-, e'⟩
    · exact absurd hf' (hno k')
    · rw [e, Option.bind_some, e', Option.bind_some]
      dsimp only
      rw [if_pos rfl, bI_f, if_pos rfl]
      exact S _
