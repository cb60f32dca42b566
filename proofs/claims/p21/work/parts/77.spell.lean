/-! Scribe.spell -/
theorem wid_nd (k : Nat) (ts : List T) : wid (nd k ts) = if k < 10 then 1 else if k < 16 then 2 else if k < 18 then 1 + (ts.map wid).sum else 1 + (ts.map fun t => wid t + 1).sum := by
  unfold wid
  rw [tfold_nd, List.map_map]
  rfl
theorem rest_len (s : Nat) (l : List (List Nat)) : (rest s l).length = 1 + (l.map fun x => x.length + 1).sum := by
  induction l with
  | nil => rfl
  | cons x l ih =>
    rw [rest, List.length_cons, List.length_append, ih, List.map_cons, List.sum_cons]
    omega
theorem txt_len : ∀ t : T, AR t = true → (txt t).length = wid t := by
  intro t
  induction t using T_ind with
  | h k ts ih =>
    intro h
    have hA := ((AR_nd _ _).mp h).2
    rw [txt_nd, wid_nd]
    split
    · rfl
    · split
      · rfl
      next h1 h2 =>
        rcases AR_kind h with q | ⟨q1, x, q⟩ | ⟨q1, x, y, q⟩ | ⟨q1, x, y, l, q⟩
        · rw [kind_nd] at q; omega
        · rw [kids_nd] at q
          rw [kind_nd] at q1
          subst q
          have hx := ih x (by simp) (hA x (by simp))
          rw [if_pos (show k < 18 by omega)]
          split
          · show (txt x).length + 1 = _
            simp; omega
          · rw [if_pos (by omega)]
            show (txt x).length + 1 = _
            simp; omega
        all_goals
          obtain ⟨u, us, hus, hk18⟩ : ∃ u us, ts = u :: us ∧ 18 ≤ k := by
            rw [kids_nd] at q
            rw [kind_nd] at q1
            exact ⟨_, _, q, by omega⟩
          clear q q1
          subst hus
          rw [if_neg (by omega), if_neg (by omega), if_neg (by omega), List.map_cons, List.headD_cons, List.tail_cons, List.length_cons, List.length_append, rest_len, List.map_map, List.map_cons, List.sum_cons]
          have h3 : (us.map ((fun x => x.length + 1) ∘ txt)).sum = (us.map fun t => wid t + 1).sum := sum_eq_map _ _ us (fun t ht => by
            show (txt t).length + 1 = _
            rw [ih t (List.mem_cons_of_mem _ ht) (hA t (List.mem_cons_of_mem _ ht))])
          rw [h3, ih u List.mem_cons_self (hA u List.mem_cons_self)]
          omega
theorem wid_le : ∀ t : T, AR t = true → wid t + 1 ≤ 3 * size t := by
  intro t
  induction t using T_ind with
  | h k ts ih =>
    intro h
    have hA := ((AR_nd _ _).mp h).2
    rw [wid_nd, size_nd]
    have h1 : (ts.map fun t => wid t + 1).sum ≤ (ts.map fun t => 3 * size t).sum := sum_le_map _ _ ts (fun t ht => ih t ht (hA t ht))
    have h2 : ∀ l : List T, (l.map fun t => 3 * size t).sum = 3 * (l.map size).sum := by
      intro l
      induction l with
      | nil => rfl
      | cons a l ih => simp only [List.map_cons, List.sum_cons, ih]; omega
    have h3 : (ts.map wid).sum ≤ (ts.map fun t => wid t + 1).sum := sum_le_map _ _ ts (fun t _ => by omega)
    rw [h2] at h1
    split
    · omega
    · split
      · omega
      · split <;> omega
/-- the text written so far, and the brackets that are open -/
def TX (M : Mem) (out : List Nat) : Prop := M 17 5 = nI out.length ∧ CA M 19 0 out
def BS (M : Mem) : List (Nat × Nat) → Prop
  | [] => True
  | s :: S => (M 20 S.length = nI s.1 ∧ M 21 S.length = nI s.2 ∧ s.1 < 128 ∧ 0 < s.2 ∧ s.2 < 1000) ∧ BS M S
def bh : List (Nat × Nat) → List Nat × List (Nat × Nat)
  | [] => ([], [])
  | s :: S => if 1 < s.2 then ([s.1], (s.1, s.2 - 1) :: S) else (41 :: (bh S).1, (bh S).2)
theorem BS.mv {M M' : Mem} : ∀ {S : List (Nat × Nat)}, BS M S → (∀ i, i < S.length → M' 20 i = M 20 i) → (∀ i, i < S.length → M' 21 i = M 21 i) → BS M' S
  | [], _, _, _ => trivial
  | s :: S, ⟨⟨a, b, c⟩, h⟩, h1, h2 => ⟨⟨by rw [h1 _ (by simp)]; exact a, by rw [h2 _ (by simp)]; exact b, c⟩, BS.mv h (fun i hi => h1 i (by simp; omega)) (fun i hi => h2 i (by simp; omega))⟩
theorem write_ok {M : Mem} {out : List Nat} {c : Nat} (h : TX M out) (hl : out.length < 360) (hc : c < 65536) : ∃ M', f_X3_write (nI c) M = some (nI 0, M') ∧ TX M' (out ++ [c]) ∧ M' 17 6 = M 17 6 ∧ ∀ d, d ≠ 17 → d ≠ 19 → M' d = M d := by
  obtain ⟨h1, h2⟩ := h
  unfold f_X3_write f_X3_write_30
  simp (disch := omega) only [h1, nlt, hl, if_true, nc_n hc, mst_n, Option.bind_some, mpi_n]
  have q5 : mwr M 19 out.length (nI c) 17 5 = nI out.length := by rw [mwr_off _ _ _ (by omega)]; exact h1
  simp only [q5, nI_add]
  refine ⟨_, rfl, ⟨by rw [mwr_at, List.length_append]; rfl, fun j hj => ?_⟩, by rw [mwr_in _ (by omega), mwr_off _ _ _ (by omega)], fun d a b => by rw [mwr_ne _ _ _ a, mwr_ne _ _ _ b]⟩
  rw [mwr_off _ _ _ (by omega)]
  by_cases e : j = out.length
  · subst e
    rw [Nat.zero_add, mwr_at, List.getElem_append_right (Nat.le_refl _)]
    simp
  · have hj' : j < out.length := by rw [List.length_append] at hj; simp at hj; omega
    rw [mwr_in _ (by omega), List.getElem_append_left hj']
    exact h2 j hj'
theorem sbf_ok : ∀ (n : Nat) (S : List (Nat × Nat)) (out : List Nat) (M : Mem), S.length < n → S.length ≤ 120 → TX M out → BS M S → M 17 6 = nI S.length → out.length + (bh S).1.length ≤ 360 → ∃ M', f_X3_spellBehindForm_0 n M = some (nI 0, M') ∧ TX M' (out ++ (bh S).1) ∧ BS M' (bh S).2 ∧ M' 17 6 = nI (bh S).2.length ∧ (bh S).2.length ≤ S.length ∧ ∀ d, d ≠ 17 → d ≠ 19 → d ≠ 21 → M' d = M d := by
  intro n
  induction n with
  | zero => intro S out M h; omega
  | succ n ih =>
    intro S out M hn hS hT hB h6 hl
    rw [f_X3_spellBehindForm_0]
    match S, hn, hS, hB, h6, hl with
    | [], hn, hS, hB, h6, hl =>
      rw [List.length_nil] at h6
      simp (disch := omega) only [h6, nlt, Nat.lt_irrefl, if_false]
      exact ⟨M, rfl, by rw [show (bh []).1 = [] from rfl, List.append_nil]; exact hT, trivial, h6, Nat.le_refl _, fun _ _ _ _ => rfl⟩
    | s :: S, hn, hS, ⟨⟨b1, b2, b3, b4, b5⟩, hB⟩, h6, hl =>
      simp only [List.length_cons] at hn hS h6
      have hbh : bh (s :: S) = if 1 < s.2 then ([s.1], (s.1, s.2 - 1) :: S) else (41 :: (bh S).1, (bh S).2) := rfl
      simp (disch := omega) only [h6, nlt, Nat.succ_pos, if_true, nsub, Nat.add_sub_cancel, mrd_n, Option.bind_some, b2, mst_n]
      generalize hM3 : mwr M 21 S.length (nI (s.2 - 1)) = M3
      have z21 : M3 21 S.length = nI (s.2 - 1) := by rw [← hM3, mwr_at]
      have far : ∀ d, d ≠ 21 → M3 d = M d := fun d hd => by rw [← hM3, mwr_ne _ _ _ hd]
      have z20 : M3 20 S.length = nI s.1 := by rw [far 20 (by omega)]; exact b1
      have hT3 : TX M3 out := ⟨by rw [far 17 (by omega)]; exact hT.1, hT.2.congr (far 19 (by omega))⟩
      have hB3 : BS M3 S := hB.mv (fun i _ => by rw [far 20 (by omega)]) (fun i hi => by rw [← hM3, mwr_in _ (by omega)])
      simp (disch := omega) only [z21, z20, nlt, Option.bind_some]
      by_cases h1 : 1 < s.2
      · rw [if_pos h1] at hbh
        rw [hbh] at hl ⊢
        simp only [List.length_singleton] at hl
        rw [if_pos (by omega)]
        obtain ⟨M', e, t, x6, o⟩ := write_ok (c := s.1) hT3 (by omega) (by omega)
        rw [e, Option.bind_some]
        refine ⟨M', rfl, t, ⟨⟨by rw [o 20 (by omega) (by omega)]; exact z20, by rw [o 21 (by omega) (by omega)]; exact z21, b3, by show 0 < s.2 - 1; omega, by show s.2 - 1 < 1000; omega⟩, hB3.mv (fun i _ => by rw [o 20 (by omega) (by omega)]) (fun i _ => by rw [o 21 (by omega) (by omega)])⟩, ?_, Nat.le_refl _, fun d a b c => by rw [o d a b, far d c]⟩
        rw [x6, far 17 (by omega)]
        exact h6
      · rw [if_neg h1] at hbh
        rw [hbh] at hl ⊢
        simp only [List.length_cons] at hl
        rw [if_neg (by omega)]
        obtain ⟨M', e, t, x6, o⟩ := write_ok (c := 41) hT3 (by omega) (by omega)
        rw [e, Option.bind_some, mpi_n, Option.bind_some]
        have y6 : M' 17 6 = nI (S.length + 1) := by rw [x6, far 17 (by omega)]; exact h6
        dsimp only
        rw [y6, nsub (by omega), Nat.add_sub_cancel]
        generalize hM7 : mwr M' 17 6 (nI S.length) = M7
        have far7 : ∀ d, d ≠ 17 → M7 d = M' d := fun d hd => by rw [← hM7, mwr_ne _ _ _ hd]
        obtain ⟨M8, e8, t8, s8, l8, m8, o8⟩ := ih S (out ++ [41]) M7 (by omega) (by omega) ⟨by rw [← hM7, mwr_in _ (by omega)]; exact t.1, t.2.congr (far7 19 (by omega))⟩ (hB3.mv (fun i _ => by rw [far7 20 (by omega), o 20 (by omega) (by omega)]) (fun i _ => by rw [far7 21 (by omega), o 21 (by omega) (by omega)])) (by rw [← hM7, mwr_at]) (by rw [List.length_append]; simp; omega)
        refine ⟨M8, e8, ?_, s8, l8, by simp; omega, fun d a b c => by rw [o8 d a b c, far7 d a, o d a b, far d c]⟩
        rw [List.append_assoc] at t8
        exact t8
theorem llt_n : ∀ k, k < 16 → llt k = nI (lfc k) := by decide +kernel
theorem lfc_lt2 (k : Nat) : lfc k < 65536 := by have := lfc_lt k; omega
theorem leaf_ok {M : Mem} {out : List Nat} {k : Nat} (hk : k < 16) (h : TX M out) (hl : out.length + (txt (lf k)).length ≤ 360) : ∃ M', f_X3_spellLeaf (nI k) M = some (nI 0, M') ∧ TX M' (out ++ txt (lf k)) ∧ M' 17 6 = M 17 6 ∧ ∀ d, d ≠ 17 → d ≠ 19 → M' d = M d := by
  have ht : txt (lf k) = if k < 10 then [lfc k] else [45, lfc k] := by
    unfold lf
    rw [txt_nd]
    split
    · rfl
    · first | rfl | rw [if_pos hk]
  rw [ht] at hl ⊢
  unfold f_X3_spellLeaf f_X3_spellLeaf_12
  simp (disch := omega) only [nlt, mrs_n, Option.bind_some, llt_n k hk]
  by_cases h1 : k < 10
  · rw [if_pos h1] at hl ⊢
    rw [if_pos h1]
    simp at hl
    obtain ⟨M', e, t, x, o⟩ := write_ok h (by omega) (lfc_lt2 k)
    rw [e, Option.bind_some]
    exact ⟨M', rfl, t, x, o⟩
  · rw [if_neg h1] at hl ⊢
    rw [if_neg h1]
    simp at hl
    obtain ⟨M1, e1, t1, x1, o1⟩ := write_ok (c := 45) h (by omega) (by omega)
    obtain ⟨M2, e2, t2, x2, o2⟩ := write_ok (c := lfc k) t1 (by simp; omega) (lfc_lt2 k)
    rw [e1, Option.bind_some, e2, Option.bind_some]
    refine ⟨M2, rfl, ?_, by rw [x2, x1], fun d a b => by rw [o2 d a b, o1 d a b]⟩
    rw [List.append_assoc] at t2
    exact t2
