theorem SW_tail {M : Mem} {c : Nat} {W : List Nat} (h : SW M c W) : SW M c W.tail := by
  cases W with
  | nil => exact h
  | cons w W => exact h.2
theorem SV_last {M : Mem} {c : Nat} {tb : List T} : ∀ {V : List T}, SV M c tb V → ∃ id, id < 16 + tb.length ∧ (0 < V.length → M c 0 = nI id) ∧ (V.length = 0 → id = 0) ∧ dn tb id = V.getLast?.getD (lf 0)
  | [], _ => ⟨0, by omega, fun h => absurd h (by simp), fun _ => rfl, rfl⟩
  | [v], ⟨⟨id, a, b, d⟩, _⟩ => ⟨id, a, fun _ => b, fun h => by simp at h, d⟩
  | v :: u :: V, ⟨_, h⟩ => by
    obtain ⟨id, a, b, c, d⟩ := SV_last h
    refine ⟨id, a, fun _ => b (by simp), fun h => by simp at h, ?_⟩
    rw [List.getLast?_cons_cons]
    exact d
theorem await_ok {b c : Nat} {M : Mem} {D tb V : List T} {W : List Nat} (hb : b ≤ 59) (hc : c < 65536) (hR : RD M tb V W) (hB : BG D tb V W b) : ∃ M', f_X2_await (nI c) M = some (nI 0, M') ∧ RD M' tb V (c :: W) ∧ BG D tb V (c :: W) (b + 1) ∧ FR M M' := by
  obtain ⟨f, a6, a7, sv, sw⟩ := hR
  obtain ⟨b1, b2, b3, b4, b5⟩ := hB
  unfold f_X2_await f_X2_await_29
  simp (disch := omega) only [a7, nlt, show W.length < 60 by omega, if_true, mst_n, Option.bind_some, nc_n hc, mpi_n]
  have q7 : mwr M 25 W.length (nI c) 22 7 = nI W.length := by rw [mwr_off _ _ _ (by omega)]; exact a7
  simp only [q7, nI_add]
  refine ⟨_, rfl, ⟨f.congr (fun c _ _ => by rw [mwr_ne _ _ _ (by omega), mwr_ne _ _ _ (by omega)]), ?_, ?_, SV.mv0 sv (fun i hi => ?_), ⟨⟨hc, ?_⟩, SW.mv sw (fun i hi => ?_)⟩⟩, ⟨b1, by simp only [List.length_cons]; omega, by omega, by simp only [List.length_cons]; omega, b5⟩, fun c hc => ?_, ?_⟩
  · rw [mwr_in _ (by omega), mwr_off _ _ _ (by omega)]; exact a6
  · rw [mwr_at]; rfl
  · rw [mwr_off _ _ _ (by omega), mwr_off _ _ _ (by omega)]
  · rw [mwr_off _ _ _ (by omega), mwr_at]
  · rw [mwr_off _ _ _ (by omega), mwr_in _ (by omega)]
  · rw [mwr_ne _ _ _ (by omega), mwr_ne _ _ _ (by omega)]
  · rw [mwr_in _ (by omega), mwr_off _ _ _ (by omega)]
theorem hold_ok {b id : Nat} {M : Mem} {D tb V : List T} {W : List Nat} {v : T} (hb : b ≤ 59) (hid : id < 16) (hv : lf id = v) (hR : RD M tb V W) (hB : BG D tb V W b) : ∃ M', f_X2_hold (nI id) M = some (nI 0, M') ∧ RD M' tb (v :: V) W ∧ BG D tb (v :: V) W (b + 1) ∧ FR M M' := by
  subst hv
  obtain ⟨f, a6, a7, sv, sw⟩ := hR
  obtain ⟨b1, b2, b3, b4, b5⟩ := hB
  have hl := sum_len_MW V
  unfold f_X2_hold f_X2_hold_29
  simp (disch := omega) only [a6, nlt, show V.length < 60 by omega, if_true, mst_n, Option.bind_some, mpi_n]
  have q6 : mwr M 24 V.length (nI id) 22 6 = nI V.length := by rw [mwr_off _ _ _ (by omega)]; exact a6
  simp only [q6, nI_add]
  refine ⟨_, rfl, ⟨f.congr (fun c _ _ => by rw [mwr_ne _ _ _ (by omega), mwr_ne _ _ _ (by omega)]), ?_, ?_, ⟨⟨id, by omega, ?_, dn_lf hid⟩, SV.mv0 sv (fun i hi => ?_)⟩, SW.mv sw (fun i hi => ?_)⟩, ⟨b1, by omega, ?_, ?_, VN_cons.mpr ⟨⟨AR_lf hid, NF_lf id hid⟩, b5⟩⟩, fun c hc => ?_, ?_⟩
  · rw [mwr_at]; rfl
  · rw [mwr_in _ (by omega), mwr_off _ _ _ (by omega)]; exact a7
  · rw [mwr_off _ _ _ (by omega), mwr_at]
  · rw [mwr_off _ _ _ (by omega), mwr_in _ (by omega)]
  · rw [mwr_off _ _ _ (by omega), mwr_off _ _ _ (by omega)]
  · simp only [List.map_cons, List.sum_cons, MW_lf id hid]; omega
  · simp only [List.map_cons, List.sum_cons, size_lf]; omega
  · rw [mwr_ne _ _ _ (by omega), mwr_ne _ _ _ (by omega)]
  · rw [mwr_in _ (by omega), mwr_off _ _ _ (by omega)]
theorem W_len {b : Nat} {D tb V : List T} {W : List Nat} (h : BG D tb V W b) : W.length ≤ b := by have := h.2.1; omega
theorem V_len {b : Nat} {D tb V : List T} {W : List Nat} (h : BG D tb V W b) : V.length ≤ b := by have := h.2.2.1; have := sum_len_MW V; omega
theorem rd1_ok {b c i L : Nat} {M : Mem} {D tb V : List T} {W : List Nat} (hb : b ≤ 59) (hc : c < 65536) (hi : i < L) (hL : L ≤ 60) (h5 : M 22 5 = nI L) (h23 : M 23 i = nI c) (hR : RD M tb V W) (hB : BG D tb V W b) (n : Nat) :
    ∃ (M' : Mem) (tb' D' : List T), f_X2_read_12 (n + 1) (nI i) M = f_X2_read_12 n (nI (i + 1)) M' ∧ RD M' tb' (rd1 c V W).1 (rd1 c V W).2 ∧ BG D' tb' (rd1 c V W).1 (rd1 c V W).2 (b + 1) ∧ FR M M' := by
  have fu : ∀ k, k ≤ 60 → k < fuelN := fun k hk => by unfold fuelN; omega
  rw [f_X2_read_12]
  unfold f_X2_read_78 f_X2_read_103 f_X2_read_108
  simp (disch := omega) only [h5, nlt, hi, if_true, mrd_n, Option.bind_some, h23, isValue_ok hc, bI_0', isBetween_ok hc, least_ok hc, neq]
  unfold rd1
  by_cases hv : isV c = true
  · rw [hv]
    simp only [Bool.true_eq_false, if_false, if_true, valueOf_ok hv, Option.bind_some]
    obtain ⟨M1, e1, r1, g1, o1⟩ := hold_ok hb (vid_lt hv) (valT_vid c).symm hR hB
    rw [e1, Option.bind_some]
    obtain ⟨M2, tb2, D2, e2, r2, g2, o2⟩ := app_0 (b := b + 1) (by omega) fuelN _ W D tb M1 (fu _ (by have := W_len hB; omega)) r1 g1
    unfold f_X2_applyInFront
    rw [e2, Option.bind_some, nI_add]
    exact ⟨M2, tb2, D2, rfl, r2, g2, o1.tr o2⟩
  have hv' : isV c = false := by simpa using hv
  rw [hv']
  simp only [if_true, Bool.false_eq_true, if_false]
  by_cases h41 : c = 41
  · rw [if_pos h41, if_pos h41]
    unfold f_X2_combineDownTo
    obtain ⟨M1, tb1, D1, e1, r1, g1, o1⟩ := cmb_0 (b := b) (l := 1) (by omega) (by omega) fuelN V W D tb M (fu _ (by have := W_len hB; omega)) hR hB
    rw [e1, Option.bind_some]
    generalize (cmb 1 V W).1 = V1 at *
    generalize (cmb 1 V W).2 = W1 at *
    have hw1 := W_len g1
    obtain ⟨f, a6, a7, sv, sw⟩ := r1
    obtain ⟨b1, b2, b3, b4, b5⟩ := g1
    have ht : W1.tail.length = W1.length - 1 := List.length_tail
    have key : ∃ M' tb' D', ((mpi M1 22 7 (nI W1.tail.length)).bind fun M1 => (f_X2_applyInFront M1).bind fun q2 => f_X2_read_12 n (nI i + nI 1) q2.2) = f_X2_read_12 n (nI (i + 1)) M' ∧ RD M' tb' (appF V1 W1.tail).1 (appF V1 W1.tail).2 ∧ BG D' tb' (appF V1 W1.tail).1 (appF V1 W1.tail).2 (b + 1) ∧ FR M M' := by
      rw [mpi_n, Option.bind_some]
      unfold f_X2_applyInFront
      obtain ⟨M2, tb2, D2, e2, r2, g2, o2⟩ := app_0 (b := b + 1) (by omega) fuelN V1 W1.tail D1 tb1 (mwr M1 22 7 (nI W1.tail.length)) (fu _ (by omega)) ⟨f.congr (fun c _ _ => mwr_ne _ _ _ (by omega)), by rw [mwr_in _ (by omega)]; exact a6, mwr_at _ _ _ _, SV.mv0 sv (fun i hi => by rw [mwr_off _ _ _ (by omega)]), SW.mv (SW_tail sw) (fun i hi => by rw [mwr_off _ _ _ (by omega)])⟩ ⟨b1, by omega, by omega, by omega, b5⟩
      rw [e2, Option.bind_some, nI_add]
      refine ⟨M2, tb2, D2, rfl, r2, g2, o1.tr (FR.tr ⟨fun c hc => mwr_ne _ _ _ (by omega), ?_⟩ o2)⟩
      rw [mwr_in _ (by omega)]
    rw [ht] at key
    by_cases hz : 0 < W1.length
    · simp (disch := omega) only [a7, nlt, hz, if_true, nsub]
      exact key
    · have : W1.length = 0 := by omega
      simp (disch := omega) only [a7, nlt, hz, if_false]
      rw [this] at key
      exact key
  rw [if_neg h41, if_neg h41]
  by_cases hz : 0 < bnd c
  · rw [decide_eq_true hz, if_pos hz]
    simp only [Bool.true_eq_false, if_false]
    have hl : lst c < 5 := by have := bnd_lt c; unfold lst; split <;> omega
    unfold f_X2_combineDownTo
    obtain ⟨M1, tb1, D1, e1, r1, g1, o1⟩ := cmb_0 (b := b) (l := lst c) (by omega) hl fuelN V W D tb M (fu _ (by have := W_len hB; omega)) hR hB
    rw [e1, Option.bind_some]
    obtain ⟨M2, e2, r2, g2, o2⟩ := await_ok hb hc r1 g1
    rw [e2, Option.bind_some, nI_add]
    exact ⟨M2, tb1, D1, rfl, r2, g2, o1.tr o2⟩
  · rw [decide_eq_false hz, if_neg hz]
    simp only [if_true]
    obtain ⟨M2, e2, r2, g2, o2⟩ := await_ok hb hc hR hB
    rw [e2, Option.bind_some, nI_add]
    exact ⟨M2, tb, D, rfl, r2, g2, o2⟩
theorem rdA_ok {L : Nat} (hL : L ≤ 60) : ∀ (cs : List Nat) (i b n : Nat) (M : Mem) (D tb V : List T) (W : List Nat), i + cs.length = L → b = i → cs.length < n → M 22 5 = nI L → (∀ j (h : j < cs.length), cs[j] < 65536 ∧ M 23 (i + j) = nI cs[j]) → RD M tb V W → BG D tb V W b →
    ∃ (M' : Mem) (tb' D' : List T) (m : Nat), 0 < m ∧ f_X2_read_12 n (nI i) M = f_X2_read_12 m (nI L) M' ∧ RD M' tb' (rdA cs V W).1 (rdA cs V W).2 ∧ BG D' tb' (rdA cs V W).1 (rdA cs V W).2 L ∧ FR M M' := by
  intro cs
  induction cs with
  | nil =>
    intro i b n M D tb V W h1 h2 h3 h4 h5 h6 h7
    have : i = L := by simpa using h1
    subst this
    subst h2
    exact ⟨M, tb, D, n, by simpa using h3, rfl, h6, h7, FR.rfl' M⟩
  | cons c cs ih =>
    intro i b n M D tb V W h1 h2 h3 h4 h5 h6 h7
    simp only [List.length_cons] at h1 h3
    obtain ⟨n, rfl⟩ : ∃ m, n = m + 1 := ⟨n - 1, by omega⟩
    have h50 := h5 0 (by simp)
    obtain ⟨M1, tb1, D1, e1, r1, g1, o1⟩ := rd1_ok (c := c) (i := i) (by omega) h50.1 (by omega) hL h4 h50.2 h6 h7 n
    obtain ⟨M', tb', D', m, hm, e2, r2, g2, o2⟩ := ih (i + 1) (b + 1) n M1 D1 tb1 _ _ (by omega) (by omega) (by omega) (by rw [o1.2]; exact h4) (fun j hj => by
      have := h5 (j + 1) (by simp; omega)
      rw [o1.1 23 (by omega), show i + 1 + j = i + (j + 1) by omega]
      exact this) r1 g1
    exact ⟨M', tb', D', m, hm, by rw [e1, e2], r2, g2, o1.tr o2⟩
theorem read_ok {M : Mem} (h : FT M []) {cs : List Nat} (hl : cs.length ≤ 60) (h5 : M 22 5 = nI cs.length) (ht : ∀ i (h : i < cs.length), cs[i] < 65536 ∧ M 23 i = nI cs[i]) :
    ∃ (id : Nat) (M' : Mem) (tb' : List T), f_X2_read M = some (nI id, M') ∧ FT M' tb' ∧ id < 16 + tb'.length ∧ dn tb' id = rdT cs ∧ size (rdT cs) ≤ 120 ∧ FR M M' := by
  unfold f_X2_read
  simp only [mpi_n, Option.bind_some]
  generalize hM0 : mwr (mwr M 22 6 (nI 0)) 22 7 (nI 0) = M0
  have far : ∀ c, c ≠ 22 → M0 c = M c := fun c hc => by rw [← hM0, mwr_ne _ _ _ hc, mwr_ne _ _ _ hc]
  have z6 : M0 22 6 = nI 0 := by rw [← hM0, mwr_in _ (by omega), mwr_at]
  have z7 : M0 22 7 = nI 0 := by rw [← hM0, mwr_at]
  have z5 : M0 22 5 = M 22 5 := by rw [← hM0, mwr_in _ (by omega), mwr_in _ (by omega)]
  have o0 : FR M M0 := ⟨fun c hc => far c (by omega), z5⟩
  obtain ⟨M1, tb1, D1, m, hm, e1, r1, g1, o1⟩ := rdA_ok hl cs 0 0 fuelN M0 [] [] [] [] (by omega) rfl (by unfold fuelN; omega) (by rw [z5]; exact h5) (fun j hj => by rw [far 23 (by omega), Nat.zero_add]; exact ht j hj) ⟨h.congr (fun c _ _ => far c (by omega)), z6, z7, trivial, trivial⟩ ⟨(fun _ h => by cases h), by simp, by simp, by simp, (fun _ h => by cases h)⟩
  rw [e1]
  obtain ⟨m, rfl⟩ : ∃ k, m = k + 1 := ⟨m - 1, by omega⟩
  rw [f_X2_read_12]
  have y5 : M1 22 5 = nI cs.length := by rw [o1.2, z5]; exact h5
  unfold f_X2_combineDownTo f_X2_read_136
  simp (disch := omega) only [y5, nlt, Nat.lt_irrefl, if_false]
  obtain ⟨M2, tb2, D2, e2, r2, g2, o2⟩ := cmb_0 (l := 1) hl (by omega) fuelN _ _ D1 tb1 M1 (by have := W_len g1; unfold fuelN; omega) r1 g1
  rw [e2, Option.bind_some]
  have hT : rdT cs = (cmb 1 (rdA cs [] []).1 (rdA cs [] []).2).1.getLast?.getD (lf 0) := rfl
  rw [hT]
  generalize (cmb 1 (rdA cs [] []).1 (rdA cs [] []).2).1 = V2 at *
  generalize (cmb 1 (rdA cs [] []).1 (rdA cs [] []).2).2 = W2 at *
  have hv2 := V_len g2
  obtain ⟨f, a6, a7, sv, sw⟩ := r2
  obtain ⟨id, i1, i2, i3, i4⟩ := SV_last sv
  have hsz : size (V2.getLast?.getD (lf 0)) ≤ 120 := by
    have h4 := g2.2.2.2.1
    match V2, h4 with
    | [], _ => show size (lf 0) ≤ 120; rw [size_lf]; omega
    | v :: V, h4 =>
      have hm : (v :: V).getLast?.getD (lf 0) ∈ v :: V := by
        rw [List.getLast?_eq_some_getLast (by simp)]
        exact List.getLast_mem _
      have := le_sum_of_mem (List.mem_map_of_mem (f := size) hm)
      omega
  refine ⟨id, M2, tb2, ?_, f, i1, i4, hsz, o0.tr (o1.tr o2)⟩
  simp (disch := omega) only [a6, nlt]
  by_cases hz : 0 < V2.length
  · simp (disch := omega) only [hz, if_true, mrd_n, Option.bind_some, i2 hz]
  · simp only [hz, if_false]
    rw [i3 (by omega)]
