/-! Scribe.spell: the forms -/
def FRS (M M' : Mem) : Prop := ∀ d, d ≠ 17 → d ≠ 19 → d ≠ 20 → d ≠ 21 → M' d = M d
def SP (x1 p tot : Nat) (t : T) : Prop := ∀ (S : List (Nat × Nat)) (out : List Nat) (q n : Nat) (M : Mem), TX M out → BS M S → M 17 6 = nI S.length → CA M (x1 + 2) (p * 120 + q) (codes t) → M (x1 + 1) p = nI tot → q + size t ≤ tot → S.length + size t ≤ 120 → out.length + ((txt t).length + (bh S).1.length) ≤ 360 →
    ∃ M', f_X3_spell_12 (n + size t) x1 (nI p) (nI q) M = f_X3_spell_12 n x1 (nI p) (nI (q + size t)) M' ∧ TX M' (out ++ (txt t ++ (bh S).1)) ∧ BS M' (bh S).2 ∧ M' 17 6 = nI (bh S).2.length ∧ FRS M M'
theorem SP_row {x1 p tot : Nat} (hx : 21 ≤ x1) : ∀ (l : List T) (x : T), SP x1 p tot x → (∀ t ∈ l, SP x1 p tot t) → ∀ (s : Nat) (S : List (Nat × Nat)) (out : List Nat) (q n : Nat) (M : Mem), TX M out → BS M ((s, 1 + l.length) :: S) → M 17 6 = nI (S.length + 1) → CA M (x1 + 2) (p * 120 + q) (codes x ++ (l.map codes).flatten) → M (x1 + 1) p = nI tot → q + (size x + (l.map size).sum) ≤ tot → S.length + 1 + (size x + (l.map size).sum) ≤ 120 → out.length + ((txt x ++ rest s (l.map txt)).length + (bh S).1.length) ≤ 360 →
    ∃ M', f_X3_spell_12 (n + (size x + (l.map size).sum)) x1 (nI p) (nI q) M = f_X3_spell_12 n x1 (nI p) (nI (q + (size x + (l.map size).sum))) M' ∧ TX M' (out ++ ((txt x ++ rest s (l.map txt)) ++ (bh S).1)) ∧ BS M' (bh S).2 ∧ M' 17 6 = nI (bh S).2.length ∧ FRS M M' := by
  intro l
  induction l with
  | nil =>
    intro x hP _ s S out q n M hT hB h6 hC h1 h2 h3 h4
    simp only [List.map_nil, List.flatten_nil, List.append_nil, List.sum_nil, Nat.add_zero, List.length_nil, rest, List.length_append, List.length_singleton] at hC h2 h3 h4 hB ⊢
    have hbh : bh ((s, 1) :: S) = (41 :: (bh S).1, (bh S).2) := if_neg (by show ¬ 1 < 1; omega)
    obtain ⟨M', e, t, b, x6, o⟩ := hP ((s, 1) :: S) out q n M hT hB (by simpa using h6) hC h1 h2 (by simp; omega) (by rw [hbh]; simp; omega)
    rw [hbh] at t b x6
    refine ⟨M', e, ?_, b, x6, o⟩
    rw [List.append_assoc]
    exact t
  | cons y l ih =>
    intro x hP hL s S out q n M hT hB h6 hC h1 h2 h3 h4
    simp only [List.map_cons, List.flatten_cons, List.sum_cons, List.length_cons, rest, List.length_append] at hC h2 h3 h4 hB ⊢
    have hbh : bh ((s, 1 + (l.length + 1)) :: S) = ([s], (s, 1 + (l.length + 1) - 1) :: S) := if_pos (by show 1 < 1 + (l.length + 1); omega)
    rw [show 1 + (l.length + 1) - 1 = 1 + l.length by omega] at hbh
    obtain ⟨M1, e1, t1, b1, y1, o1⟩ := hP ((s, 1 + (l.length + 1)) :: S) out q (n + (size y + (l.map size).sum)) M hT hB (by simpa using h6) hC.left h1 (by omega) (by simp; omega) (by rw [hbh]; simp; omega)
    rw [hbh] at t1 b1 y1
    have hr := hC.right
    rw [codes_len, Nat.add_assoc] at hr
    obtain ⟨M2, e2, t2, b2, y2, o2⟩ := ih y (hL y List.mem_cons_self) (fun t ht => hL t (List.mem_cons_of_mem _ ht)) s S (out ++ (txt x ++ [s])) (q + size x) n M1 t1 b1 (by simpa using y1) (hr.congr (o1 _ (by omega) (by omega) (by omega) (by omega))) (by rw [o1 _ (by omega) (by omega) (by omega) (by omega)]; exact h1) (by omega) (by omega) (by simp only [List.length_append, List.length_singleton]; omega)
    refine ⟨M2, ?_, ?_, b2, y2, fun d a b c e => by rw [o2 d a b c e, o1 d a b c e]⟩
    · rw [show n + (size x + (size y + (l.map size).sum)) = n + (size y + (l.map size).sum) + size x by omega, e1, e2]
      congr 2
      omega
    · have ee : out ++ (txt x ++ [s]) ++ (txt y ++ rest s (l.map txt) ++ (bh S).1) = out ++ (txt x ++ s :: (txt y ++ rest s (l.map txt)) ++ (bh S).1) := by simp
      rw [← ee]
      exact t2
theorem SP_all {x1 p tot : Nat} (hx : 21 ≤ x1) (hp : p < 8) (htot : tot ≤ 120) : ∀ t : T, AR t = true → SP x1 p tot t := by
  intro t
  induction t using T_ind with
  | h k ts ih =>
    intro hA S out q n M hT hB h6 hC h1 h2 h3 h4
    have hk21 := AR_le hA
    rw [kind_nd] at hk21
    have hAk := ((AR_nd _ _).mp hA).2
    have hlen := len_le_size ts
    rw [size_nd] at h2 h3 ⊢
    rw [codes_nd] at hC
    have c0 : M (x1 + 2) (p * 120 + q) = nI (k + 32 * ts.length) := hC 0 (by simp)
    have cr : CA M (x1 + 2) (p * 120 + (q + 1)) (ts.map codes).flatten := CA.right (a := [k + 32 * ts.length]) hC
    rw [show n + (1 + (ts.map size).sum) = n + (ts.map size).sum + 1 by omega, f_X3_spell_12]
    unfold f_X3_spell_87 f_X3_spell_144
    have hpq : p * 120 + q < 960 := by omega
    simp (disch := omega) only [mrd_n, Option.bind_some, h1, nlt, show q < tot by omega, if_true, nmul, nI_add, c0, code_n, code_k, neq]
    rcases AR_kind hA with ⟨k1, e⟩ | ⟨k1, x, e⟩ | ⟨k1, x, y, e⟩ | ⟨k1, x, y, l, e⟩
    · rw [kind_nd] at k1
      rw [kids_nd] at e
      subst e
      simp only [List.length_nil, if_true]
      rw [show nd k [] = lf k from rfl] at h4 ⊢
      obtain ⟨M1, e1, t1, y1, o1⟩ := leaf_ok k1 hT (by omega)
      rw [e1, Option.bind_some]
      unfold f_X3_spellBehindForm
      obtain ⟨M2, e2, t2, s2, y2, l2, o2⟩ := sbf_ok fuelN S (out ++ txt (lf k)) M1 (by unfold fuelN; omega) (by omega) t1 (hB.mv (fun i _ => by rw [o1 20 (by omega) (by omega)]) (fun i _ => by rw [o1 21 (by omega) (by omega)])) (by rw [y1]; exact h6) (by rw [List.length_append]; omega)
      rw [e2, Option.bind_some]
      refine ⟨M2, rfl, by rw [← List.append_assoc]; exact t2, s2, y2, fun d a b c f => by rw [o2 d a b f, o1 d a b]⟩
    · rw [kind_nd] at k1
      rw [kids_nd] at e
      subst e
      simp only [List.length_singleton, show ¬ (1 : Nat) = 0 by omega, if_false, if_true]
      simp only [List.map_cons, List.map_nil, List.sum_cons, List.sum_nil, Nat.add_zero, List.flatten_cons, List.flatten_nil, List.append_nil] at h2 h3 cr ⊢
      have htx : txt (nd k [x]) = (if k = 16 then 88 else 78) :: txt x := by
        have := txt_un (t := nd k [x]) (x := x) (by rw [kind_nd]; exact k1) (kids_nd _ _)
        rwa [kind_nd] at this
      rw [htx, List.length_cons] at h4
      have key : ∀ c, c = (if k = 16 then 88 else 78) → c < 65536 → ∃ M', ((f_X3_write (nI c) M).bind fun q1 => f_X3_spell_12 (n + size x) x1 (nI p) (nI (q + 1)) q1.2) = f_X3_spell_12 n x1 (nI p) (nI (q + (1 + size x))) M' ∧ TX M' (out ++ (txt (nd k [x]) ++ (bh S).1)) ∧ BS M' (bh S).2 ∧ M' 17 6 = nI (bh S).2.length ∧ FRS M M' := by
        intro c hc hc2
        obtain ⟨M1, e1, t1, y1, o1⟩ := write_ok (c := c) hT (by omega) hc2
        rw [e1, Option.bind_some]
        obtain ⟨M2, e2, t2, s2, y2, o2⟩ := ih x (by simp) (hAk x (by simp)) S (out ++ [c]) (q + 1) n M1 t1 (hB.mv (fun i _ => by rw [o1 20 (by omega) (by omega)]) (fun i _ => by rw [o1 21 (by omega) (by omega)])) (by rw [y1]; exact h6) (cr.congr (o1 _ (by omega) (by omega))) (by rw [o1 _ (by omega) (by omega)]; exact h1) (by omega) (by omega) (by rw [List.length_append]; simp; omega)
        refine ⟨M2, ?_, ?_, s2, y2, fun d a b c f => by rw [o2 d a b c f, o1 d a b]⟩
        · rw [e2]
          congr 2
          omega
        · rw [htx, ← hc]
          rw [List.append_assoc] at t2
          exact t2
      by_cases q16 : k = 16
      · rw [if_pos q16]
        exact key 88 (by rw [if_pos q16]) (by omega)
      · rw [if_neg q16]
        exact key 78 (by rw [if_neg q16]) (by omega)
    all_goals
      obtain ⟨u, us, hus, hk18⟩ : ∃ u us, ts = u :: us ∧ 18 ≤ k ∧ 1 ≤ us.length := by
        rw [kids_nd] at e
        rw [kind_nd] at k1
        exact ⟨_, _, e, by omega, by simp⟩
      clear e
      subst hus
      have htx : txt (nd k (u :: us)) = 40 :: (txt u ++ rest (sepc k) (us.map txt)) := by
        have := txt_br (t := nd k (u :: us)) (x := u) (l := us) (by rw [kind_nd]; omega) (kids_nd _ _)
        rwa [kind_nd] at this
      rw [htx, List.length_cons] at h4
      have hsc := sepc_lt k
      simp only [List.map_cons, List.sum_cons, List.flatten_cons, List.length_cons] at h2 h3 cr hlen ⊢
      simp (disch := omega) only [show ¬ us.length + 1 = 0 by omega, show ¬ us.length + 1 = 1 by omega, if_false, h6, nlt, show S.length < 120 by omega, if_true]
      obtain ⟨M1, e1, t1, y1, o1⟩ := write_ok (c := 40) hT (by omega) (by omega)
      have z6 : M1 17 6 = nI S.length := by rw [y1]; exact h6
      simp (disch := omega) only [e1, Option.bind_some, mrs_n, sepf_n hk18.1 hk21, z6, mst_n, nc_n]
      have z6' : mwr M1 20 S.length (nI (sepc k)) 17 6 = nI S.length := by rw [mwr_off _ _ _ (by omega)]; exact z6
      simp (disch := omega) only [z6', mst_n, Option.bind_some]
      have z6'' : mwr (mwr M1 20 S.length (nI (sepc k))) 21 S.length (nI (us.length + 1)) 17 6 = nI S.length := by rw [mwr_off _ _ _ (by omega)]; exact z6'
      simp only [z6'', mpi_n, Option.bind_some, nI_add]
      generalize hM3 : mwr (mwr (mwr M1 20 S.length (nI (sepc k))) 21 S.length (nI (us.length + 1))) 17 6 (nI (S.length + 1)) = M3
      have far : ∀ d, d ≠ 17 → d ≠ 20 → d ≠ 21 → M3 d = M1 d := fun d a b c => by rw [← hM3, mwr_ne _ _ _ a, mwr_ne _ _ _ c, mwr_ne _ _ _ b]
      have hT3 : TX M3 (out ++ [40]) := ⟨by rw [← hM3, mwr_in _ (by omega), mwr_off _ _ _ (by omega), mwr_off _ _ _ (by omega)]; exact t1.1, t1.2.congr (far 19 (by omega) (by omega) (by omega))⟩
      have hB3 : BS M3 ((sepc k, 1 + us.length) :: S) := by
        refine ⟨⟨?_, ?_, hsc, by show 0 < 1 + us.length; omega, by show 1 + us.length < 1000; omega⟩, hB.mv (fun i hi => ?_) (fun i hi => ?_)⟩
        · rw [← hM3, mwr_off _ _ _ (by omega), mwr_off _ _ _ (by omega), mwr_at]
        · rw [← hM3, mwr_off _ _ _ (by omega), mwr_at]
          show nI _ = nI (1 + us.length)
          congr 1
          omega
        · rw [← hM3, mwr_off _ _ _ (by omega), mwr_off _ _ _ (by omega), mwr_in _ (by omega), o1 20 (by omega) (by omega)]
        · rw [← hM3, mwr_off _ _ _ (by omega), mwr_in _ (by omega), mwr_off _ _ _ (by omega), o1 21 (by omega) (by omega)]
      obtain ⟨M2, e2, t2, s2, y2, o2⟩ := SP_row hx us u (ih u (by simp) (hAk u (by simp))) (fun t ht => ih t (List.mem_cons_of_mem _ ht) (hAk t (List.mem_cons_of_mem _ ht))) (sepc k) S (out ++ [40]) (q + 1) n M3 hT3 hB3 (by rw [← hM3, mwr_at]) (cr.congr (by rw [far _ (by omega) (by omega) (by omega), o1 _ (by omega) (by omega)])) (by rw [far _ (by omega) (by omega) (by omega), o1 _ (by omega) (by omega)]; exact h1) (by omega) (by omega) (by simp only [List.length_append, List.length_singleton] at h4 ⊢; omega)
      refine ⟨M2, ?_, ?_, s2, y2, fun d a b c f => by rw [o2 d a b c f, far d a c f, o1 d a b]⟩
      · rw [e2]
        congr 2
        omega
      · rw [htx]
        rw [List.append_assoc] at t2
        exact t2
theorem spell_ok {M : Mem} {x1 p : Nat} {t : T} (hx : 21 ≤ x1) (hp : p < 8) (hA : AR t = true) (hs : size t ≤ 120) (hc : CP M x1 p t) : ∃ M', f_X3_spell x1 (nI p) M = some (nI (txt t).length, M') ∧ CA M' 19 0 (txt t) ∧ (txt t).length < 360 ∧ ∀ d, d ≠ 17 → d ≠ 19 → d ≠ 20 → d ≠ 21 → M' d = M d := by
  have hw := wid_le t hA
  have ht := txt_len t hA
  unfold f_X3_spell
  simp only [mpi_n, Option.bind_some]
  generalize hM0 : mwr (mwr M 17 5 (nI 0)) 17 6 (nI 0) = M0
  have far : ∀ d, d ≠ 17 → M0 d = M d := fun d a => by rw [← hM0, mwr_ne _ _ _ a, mwr_ne _ _ _ a]
  obtain ⟨M1, e1, t1, s1, y1, o1⟩ := SP_all hx hp hs t hA [] [] 0 (fuelN - size t) M0 ⟨by rw [← hM0, mwr_in _ (by omega), mwr_at]; rfl, fun j hj => by simp at hj⟩ trivial (by rw [← hM0, mwr_at]; rfl) (hc.2.congr (far _ (by omega))) (by rw [far _ (by omega)]; exact hc.1) (by omega) (by simpa using hs) (by simp [bh]; omega)
  rw [show fuelN - size t + size t = fuelN by unfold fuelN; omega, Nat.zero_add] at e1
  rw [e1]
  obtain ⟨m, hm⟩ : ∃ m, fuelN - size t = m + 1 := ⟨fuelN - size t - 1, by unfold fuelN; omega⟩
  rw [hm, f_X3_spell_12]
  have h1 : M1 (x1 + 1) p = nI (size t) := by rw [o1 _ (by omega) (by omega) (by omega) (by omega), far _ (by omega)]; exact hc.1
  simp (disch := omega) only [mrd_n, Option.bind_some, h1, nlt, Nat.lt_irrefl, if_false]
  have e0 : [] ++ (txt t ++ (bh []).1) = txt t := by simp [bh]
  rw [e0] at t1
  refine ⟨M1, by rw [t1.1], t1.2, by omega, fun d a b c f => by rw [o1 d a b c f, far d a]⟩
