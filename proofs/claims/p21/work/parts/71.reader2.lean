/-! the class's reader: the machine -/
def RD (M : Mem) (tb V : List T) (W : List Nat) : Prop := FT M tb ∧ M 22 6 = nI V.length ∧ M 22 7 = nI W.length ∧ SV M 24 tb V ∧ SW M 25 W
def FR (M M' : Mem) : Prop := (∀ c, c = 0 ∨ (17 ≤ c ∧ c ≠ 22 ∧ c ≠ 24 ∧ c ≠ 25) → M' c = M c) ∧ M' 22 5 = M 22 5
theorem FR.rfl' (M : Mem) : FR M M := ⟨fun _ _ => rfl, rfl⟩
theorem FR.tr {A B C : Mem} (h : FR A B) (g : FR B C) : FR A C := ⟨fun c hc => by rw [g.1 c hc, h.1 c hc], by rw [g.2, h.2]⟩
theorem un_ok {F : Int32 → Mem → Option Rv} {M : Mem} {tb D : List T} {id w : Nat} {v : T} (h : FT M tb) (hP : PT D tb) (hD : D.length ≤ 59) (hid : id < 16 + tb.length) (hv : dn tb id = v) (hn : NF v) (hw : isF w = true) :
    ∃ (y : Nat) (M' : Mem) (tc D' : List T), (if nI w = nI 33 then ((f_X0_opposite (nI id) M).bind fun q => F q.1 q.2) else if nI w = nI 71 then ((f_X0_make (nI 19) (nI 0) (nI id) M).bind fun q => F q.1 q.2) else if nI w = nI 78 then ((f_X0_make (nI 17) (nI id) (nI id) M).bind fun q => F q.1 q.2) else if nI w = nI 88 then ((f_X0_make (nI 16) (nI id) (nI id) M).bind fun q => F q.1 q.2) else (f_X0_make (nI 18) (nI 1) (nI id) M).bind fun q => F q.1 q.2) = F (nI y) M' ∧ FT M' (tb ++ tc) ∧ PT D' (tb ++ tc) ∧ D'.length ≤ D.length + 1 ∧ y < 16 + (tb ++ tc).length ∧ dn (tb ++ tc) y = unT w v ∧ ∀ c, c = 0 ∨ 17 ≤ c → M' c = M c := by
  have hc := isF_cases hw
  simp (disch := omega) only [neq]
  unfold unT
  by_cases h1 : w = 33
  · obtain ⟨y, M', tc, e, f, p, i, d, o⟩ := opposite_ok h (by omega) hP hid
    refine ⟨y, M', tc, D, ?_, f, p, by omega, i, ?_, o⟩
    · rw [if_pos h1, e, Option.bind_some]
    · rw [if_pos h1, d, hv]
  rw [if_neg h1, if_neg h1]
  by_cases h2 : w = 71
  · obtain ⟨y, M', tc, D', e, f, p, l, i, d, o⟩ := rpair_ok (k := 19) (a := 0) (b := id) h hP (by omega) (by omega) (by omega) (by omega) hid (NF_lf 0 (by omega)) (by rw [hv]; exact hn)
    refine ⟨y, M', tc, D', ?_, f, p, l, i, ?_, o⟩
    · rw [if_pos h2, e, Option.bind_some]
    · rw [if_pos h2, d, hv]; rfl
  rw [if_neg h2, if_neg h2]
  by_cases h3 : w = 78
  · obtain ⟨y, M', tc, D', e, f, p, l, i, d, o⟩ := rpair_ok (k := 17) (a := id) (b := id) h hP (by omega) (by omega) (by omega) hid hid (by rw [hv]; exact hn) (by rw [hv]; exact hn)
    refine ⟨y, M', tc, D', ?_, f, p, l, i, ?_, o⟩
    · rw [if_pos h3, e, Option.bind_some]
    · rw [if_pos h3, d, hv]; rfl
  rw [if_neg h3, if_neg h3]
  by_cases h4 : w = 88
  · obtain ⟨y, M', tc, D', e, f, p, l, i, d, o⟩ := rpair_ok (k := 16) (a := id) (b := id) h hP (by omega) (by omega) (by omega) hid hid (by rw [hv]; exact hn) (by rw [hv]; exact hn)
    refine ⟨y, M', tc, D', ?_, f, p, l, i, ?_, o⟩
    · rw [if_pos h4, e, Option.bind_some]
    · rw [if_pos h4, d, hv]; rfl
  rw [if_neg h4, if_neg h4]
  obtain ⟨y, M', tc, D', e, f, p, l, i, d, o⟩ := rpair_ok (k := 18) (a := 1) (b := id) h hP (by omega) (by omega) (by omega) (by omega) hid (NF_lf 1 (by omega)) (by rw [hv]; exact hn)
  refine ⟨y, M', tc, D', ?_, f, p, l, i, ?_, o⟩
  · rw [e, Option.bind_some]
  · rw [d, hv]; rfl
theorem bi_ok {F : Int32 → Mem → Option Rv} {M : Mem} {tb D : List T} {ia ib w : Nat} {a b : T} (h : FT M tb) (hP : PT D tb) (hD : D.length ≤ 59) (hia : ia < 16 + tb.length) (ha : dn tb ia = a) (hib : ib < 16 + tb.length) (hb : dn tb ib = b) (na : NF a) (nb : NF b) (hm : MW a + MW b ≤ 60) (hw : w < 65536) :
    ∃ (y : Nat) (M' : Mem) (tc D' : List T), (if nI w = nI 38 then ((f_X0_two (nI 20) (nI ia) (nI ib) M).bind fun q => F q.1 q.2) else if nI w = nI 82 then ((f_X0_make (nI 19) (nI ia) (nI ib) M).bind fun q => F q.1 q.2) else if nI w = nI 85 then ((f_X0_make (nI 18) (nI ia) (nI ib) M).bind fun q => F q.1 q.2) else (f_X0_two (nI 21) (nI ia) (nI ib) M).bind fun q => F q.1 q.2) = F (nI y) M' ∧ FT M' (tb ++ tc) ∧ PT D' (tb ++ tc) ∧ D'.length ≤ D.length + 1 ∧ y < 16 + (tb ++ tc).length ∧ dn (tb ++ tc) y = biT w a b ∧ ∀ c, c = 0 ∨ 17 ≤ c → M' c = M c := by
  subst ha
  subst hb
  simp (disch := omega) only [neq]
  unfold biT
  by_cases h1 : w = 38
  · obtain ⟨y, M', tc, D', e, f, p, l, i, d, o⟩ := rtwo_ok (k := 20) h hP (by omega) (Or.inl rfl) hia hib na nb hm
    refine ⟨y, M', tc, D', ?_, f, p, l, i, ?_, o⟩
    · rw [if_pos h1, e, Option.bind_some]
    · rw [if_pos h1, d]
  rw [if_neg h1, if_neg h1]
  by_cases h2 : w = 82
  · obtain ⟨y, M', tc, D', e, f, p, l, i, d, o⟩ := rpair_ok (k := 19) h hP (by omega) (by omega) (by omega) hia hib na nb
    refine ⟨y, M', tc, D', ?_, f, p, l, i, ?_, o⟩
    · rw [if_pos h2, e, Option.bind_some]
    · rw [if_pos h2, d]; rfl
  rw [if_neg h2, if_neg h2]
  by_cases h3 : w = 85
  · obtain ⟨y, M', tc, D', e, f, p, l, i, d, o⟩ := rpair_ok (k := 18) h hP (by omega) (by omega) (by omega) hia hib na nb
    refine ⟨y, M', tc, D', ?_, f, p, l, i, ?_, o⟩
    · rw [if_pos h3, e, Option.bind_some]
    · rw [if_pos h3, d]; rfl
  rw [if_neg h3, if_neg h3]
  obtain ⟨y, M', tc, D', e, f, p, l, i, d, o⟩ := rtwo_ok (k := 21) h hP (by omega) (Or.inr rfl) hia hib na nb hm
  refine ⟨y, M', tc, D', ?_, f, p, l, i, ?_, o⟩
  · rw [e, Option.bind_some]
  · rw [d]
/-- storing the value that was made -/
theorem RD_put {M M' : Mem} {tb tc V : List T} {W : List Nat} {y : Nat} {v : T} (f : FT M' (tb ++ tc)) (a6 : M' 22 6 = nI (V.length + 1)) (a7 : M' 22 7 = nI W.length) (sv : SV M 24 tb V) (sw : SW M 25 W) (h24 : M' 24 = M 24) (h25 : M' 25 = M 25) (i : y < 16 + (tb ++ tc).length) (d : dn (tb ++ tc) y = v) : RD (mwr M' 24 V.length (nI y)) (tb ++ tc) (v :: V) W := by
  refine ⟨f.congr (fun c _ _ => mwr_ne _ _ _ (by omega)), by rw [mwr_off _ _ _ (by omega)]; exact a6, by rw [mwr_off _ _ _ (by omega)]; exact a7, ⟨⟨y, i, mwr_at _ _ _ _, d⟩, SV.mv sv (fun j hj => ?_)⟩, SW.mv sw (fun j hj => ?_)⟩
  · rw [mwr_in _ (by omega), h24]
  · rw [mwr_off _ _ _ (by omega), h25]
theorem VN_cons {v : T} {V : List T} : VN (v :: V) ↔ (AR v = true ∧ NF v) ∧ VN V := ⟨fun h => ⟨h v List.mem_cons_self, fun x hx => h x (List.mem_cons_of_mem _ hx)⟩, fun h x hx => by
  rcases List.mem_cons.mp hx with rfl | hx
  · exact h.1
  · exact h.2 x hx⟩
theorem app_0 {b : Nat} (hb : b ≤ 60) : ∀ (n : Nat) (V : List T) (W : List Nat) (D tb : List T) (M : Mem), W.length < n → RD M tb V W → BG D tb V W b → ∃ (M' : Mem) (tb' D' : List T), f_X2_applyInFront_0 n M = some (nI 0, M') ∧ RD M' tb' (appF V W).1 (appF V W).2 ∧ BG D' tb' (appF V W).1 (appF V W).2 b ∧ FR M M' := by
  intro n
  induction n with
  | zero => intro V W D tb M h; omega
  | succ n ih =>
    intro V W D tb M hn hR hB
    have hR0 := hR
    obtain ⟨f, a6, a7, sv, sw⟩ := hR
    obtain ⟨b1, b2, b3, b4, b5⟩ := id hB
    rw [f_X2_applyInFront_0]
    unfold f_X2_applyInFront_188
    match V, W, a6, a7, sv, sw, b2, b3, b4, b5, hn with
    | V, [], a6, a7, sv, sw, b2, b3, b4, b5, hn =>
      rw [List.length_nil] at a7
      simp (disch := omega) only [a7, nlt, Nat.lt_irrefl, if_false]
      have e : appF V [] = (V, []) := by cases V <;> rfl
      rw [e]
      exact ⟨M, tb, D, rfl, hR0, hB, FR.rfl' M⟩
    | [], w :: W, a6, a7, sv, sw, b2, b3, b4, b5, hn =>
      rw [List.length_nil] at a6
      have hw := b2
      simp only [List.length_cons] at hw
      rw [List.length_cons] at a7
      simp (disch := omega) only [a7, a6, nlt, Nat.lt_irrefl, if_false, Nat.succ_pos, if_true]
      exact ⟨M, tb, D, rfl, hR0, hB, FR.rfl' M⟩
    | v :: V, w :: W, a6, a7, ⟨⟨id, i1, i2, i3⟩, sv⟩, ⟨⟨w1, w2⟩, sw⟩, b2, b3, b4, b5, hn =>
      have hl := sum_len_MW V
      have hp := MW_pos v
      have b5' := VN_cons.mp b5
      simp only [List.length_cons, List.map_cons, List.sum_cons] at a6 a7 b2 b3 b4 hn
      simp (disch := omega) only [a7, a6, nlt, Nat.succ_pos, if_true, nsub, Nat.add_sub_cancel, mrd_n, Option.bind_some, w2, isInFront_ok w1, neq, mpi_n, bI_0']
      by_cases hw : isF w = true
      · have e : appF (v :: V) (w :: W) = appF (unT w v :: V) W := if_pos hw
        rw [hw]
        simp only [Bool.true_eq_false, if_false]
        generalize hM6 : mwr M 22 7 (nI W.length) = M6
        have z6 : M6 22 6 = nI (V.length + 1) := by rw [← hM6, mwr_in _ (by omega)]; exact a6
        have z7 : M6 22 7 = nI W.length := by rw [← hM6, mwr_at]
        have far : ∀ c, c ≠ 22 → M6 c = M c := fun c hc => by rw [← hM6, mwr_ne _ _ _ hc]
        have z5 : M6 22 5 = M 22 5 := by rw [← hM6, mwr_in _ (by omega)]
        have f6 : FT M6 tb := f.congr (fun c _ _ => far c (by omega))
        have v7 : M6 24 V.length = nI id := by rw [far 24 (by omega)]; exact i2
        have v8 : M6 25 W.length = nI w := by rw [far 25 (by omega)]; exact w2
        simp (disch := omega) only [z6, z7, nsub, Nat.add_sub_cancel, mrd_n, Option.bind_some, v7, v8]
        obtain ⟨y, M1, tc, D1, e1, f1, p1, l1, j1, d1, o1⟩ := un_ok (F := f_X2_applyInFront_173 (f_X2_applyInFront_0 n)) f6 b1 (by omega) i1 i3 b5'.1.2 hw
        rw [e1]
        unfold f_X2_applyInFront_173
        have y6 : M1 22 6 = nI (V.length + 1) := by rw [o1 22 (by omega)]; exact z6
        have y7 : M1 22 7 = nI W.length := by rw [o1 22 (by omega)]; exact z7
        simp (disch := omega) only [y6, nsub, Nat.add_sub_cancel, mst_n, Option.bind_some]
        obtain ⟨u1, u2, u3, u4⟩ := unT_ok (w := w) b5'.1.1 b5'.1.2
        have hR2 := RD_put (M := M) (v := unT w v) f1 y6 y7 sv sw (by rw [o1 24 (by omega), far 24 (by omega)]) (by rw [o1 25 (by omega), far 25 (by omega)]) j1 d1
        obtain ⟨M', tb', D', r1, r2, r3, r4⟩ := ih (unT w v :: V) W D1 (tb ++ tc) _ (by omega) hR2 ⟨p1, by omega, by simp only [List.map_cons, List.sum_cons]; omega, by simp only [List.map_cons, List.sum_cons]; omega, VN_cons.mpr ⟨⟨u1, u2⟩, b5'.2⟩⟩
        refine ⟨M', tb', D', r1, by rw [e]; exact r2, by rw [e]; exact r3, FR.tr ⟨fun c hc => ?_, ?_⟩ r4⟩
        · rw [mwr_ne _ _ _ (by omega), o1 c (by omega), far c (by omega)]
        · rw [mwr_off _ _ _ (by omega), o1 22 (by omega), z5]
      · have e : appF (v :: V) (w :: W) = (v :: V, w :: W) := if_neg hw
        have hw' : isF w = false := by simpa using hw
        rw [hw', e]
        simp only [if_true]
        exact ⟨M, tb, D, rfl, hR0, hB, FR.rfl' M⟩
theorem cmb_0 {b l : Nat} (hb : b ≤ 60) (hl4 : l < 5) : ∀ (n : Nat) (V : List T) (W : List Nat) (D tb : List T) (M : Mem), W.length < n → RD M tb V W → BG D tb V W b → ∃ (M' : Mem) (tb' D' : List T), f_X2_combineDownTo_0 n (nI l) M = some (nI 0, M') ∧ RD M' tb' (cmb l V W).1 (cmb l V W).2 ∧ BG D' tb' (cmb l V W).1 (cmb l V W).2 b ∧ FR M M' := by
  intro n
  induction n with
  | zero => intro V W D tb M h; omega
  | succ n ih =>
    intro V W D tb M hn hR hB
    have hR0 := hR
    obtain ⟨f, a6, a7, sv, sw⟩ := hR
    obtain ⟨b1, b2, b3, b4, b5⟩ := id hB
    rw [f_X2_combineDownTo_0]
    unfold f_X2_combineDownTo_197
    match V, W, a6, a7, sv, sw, b2, b3, b4, b5, hn with
    | V, [], a6, a7, sv, sw, b2, b3, b4, b5, hn =>
      rw [List.length_nil] at a7
      simp (disch := omega) only [a7, nlt, Nat.lt_irrefl, if_false]
      have e : cmb l V [] = (V, []) := by
        match V with
        | [] => rfl
        | [_] => rfl
        | _ :: _ :: _ => rfl
      rw [e]
      exact ⟨M, tb, D, rfl, hR0, hB, FR.rfl' M⟩
    | [], w :: W, a6, a7, sv, sw, b2, b3, b4, b5, hn =>
      rw [List.length_nil] at a6
      have hw := b2
      simp only [List.length_cons] at hw
      rw [List.length_cons] at a7
      simp (disch := omega) only [a7, a6, nlt, Nat.not_lt_zero, if_false, Nat.succ_pos, if_true]
      exact ⟨M, tb, D, rfl, hR0, hB, FR.rfl' M⟩
    | [v], w :: W, a6, a7, sv, sw, b2, b3, b4, b5, hn =>
      rw [List.length_singleton] at a6
      have hw := b2
      simp only [List.length_cons] at hw
      rw [List.length_cons] at a7
      simp (disch := omega) only [a7, a6, nlt, Nat.lt_irrefl, if_false, Nat.succ_pos, if_true]
      exact ⟨M, tb, D, rfl, hR0, hB, FR.rfl' M⟩
    | v :: u :: V, w :: W, a6, a7, ⟨⟨iv, i1, i2, i3⟩, ⟨iu, j1, j2, j3⟩, sv⟩, ⟨⟨w1, w2⟩, sw⟩, b2, b3, b4, b5, hn =>
      have hl := sum_len_MW V
      have hpv := MW_pos v
      have hpu := MW_pos u
      have b5' := VN_cons.mp b5
      have b5u := VN_cons.mp b5'.2
      have hbw := bnd_lt w
      simp only [List.length_cons, List.map_cons, List.sum_cons] at a6 a7 b2 b3 b4 hn i2
      simp (disch := omega) only [a7, a6, nlt, Nat.succ_pos, if_true, nsub, Nat.add_sub_cancel, mrd_n, Option.bind_some, w2, binding_ok w1, mpi_n, show 1 < V.length + 1 + 1 by omega]
      by_cases hw : bnd w < l
      · have e : cmb l (v :: u :: V) (w :: W) = (v :: u :: V, w :: W) := if_pos hw
        rw [if_pos hw, e]
        exact ⟨M, tb, D, rfl, hR0, hB, FR.rfl' M⟩
      · have e : cmb l (v :: u :: V) (w :: W) = cmb l (biT w u v :: V) W := if_neg hw
        rw [if_neg hw, e]
        have q6 : mwr M 22 7 (nI W.length) 22 6 = nI (V.length + 1 + 1) := by rw [mwr_in _ (by omega)]; exact a6
        simp (disch := omega) only [q6, nsub, Nat.add_sub_cancel]
        generalize hM7 : mwr (mwr M 22 7 (nI W.length)) 22 6 (nI (V.length + 1)) = M7
        have z6 : M7 22 6 = nI (V.length + 1) := by rw [← hM7, mwr_at]
        have z7 : M7 22 7 = nI W.length := by rw [← hM7, mwr_in _ (by omega), mwr_at]
        have far : ∀ c, c ≠ 22 → M7 c = M c := fun c hc => by rw [← hM7, mwr_ne _ _ _ hc, mwr_ne _ _ _ hc]
        have z5 : M7 22 5 = M 22 5 := by rw [← hM7, mwr_in _ (by omega), mwr_in _ (by omega)]
        have f7 : FT M7 tb := f.congr (fun c _ _ => far c (by omega))
        have v8 : M7 24 V.length = nI iu := by rw [far 24 (by omega)]; exact j2
        have v9 : M7 24 (V.length + 1) = nI iv := by rw [far 24 (by omega)]; exact i2
        have v10 : M7 25 W.length = nI w := by rw [far 25 (by omega)]; exact w2
        simp (disch := omega) only [z6, z7, nsub, Nat.add_sub_cancel, mrd_n, Option.bind_some, v8, v9, v10]
        obtain ⟨y, M1, tc, D1, e1, f1, p1, l1, k1, d1, o1⟩ := bi_ok (F := f_X2_combineDownTo_181 (f_X2_combineDownTo_0 n) (nI l)) f7 b1 (by omega) j1 j3 i1 i3 b5u.1.2 b5'.1.2 (by omega) w1
        rw [e1]
        unfold f_X2_combineDownTo_181
        have y6 : M1 22 6 = nI (V.length + 1) := by rw [o1 22 (by omega)]; exact z6
        have y7 : M1 22 7 = nI W.length := by rw [o1 22 (by omega)]; exact z7
        simp (disch := omega) only [y6, nsub, Nat.add_sub_cancel, mst_n, Option.bind_some]
        obtain ⟨u1, u2, u3, u4⟩ := biT_ok (w := w) b5u.1.1 b5u.1.2 b5'.1.1 b5'.1.2
        have hR2 := RD_put (M := M) (v := biT w u v) f1 y6 y7 sv sw (by rw [o1 24 (by omega), far 24 (by omega)]) (by rw [o1 25 (by omega), far 25 (by omega)]) k1 d1
        obtain ⟨M', tb', D', r1, r2, r3, r4⟩ := ih (biT w u v :: V) W D1 (tb ++ tc) _ (by omega) hR2 ⟨p1, by omega, by simp only [List.map_cons, List.sum_cons]; omega, by simp only [List.map_cons, List.sum_cons]; omega, VN_cons.mpr ⟨⟨u1, u2⟩, b5u.2⟩⟩
        refine ⟨M', tb', D', r1, r2, r3, FR.tr ⟨fun c hc => ?_, ?_⟩ r4⟩
        · rw [mwr_ne _ _ _ (by omega), o1 c (by omega), far c (by omega)]
        · rw [mwr_off _ _ _ (by omega), o1 22 (by omega), z5]
