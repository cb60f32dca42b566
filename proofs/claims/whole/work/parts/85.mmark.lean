/-! the model: marks -/
theorem sub_parent : ∀ {t y : T}, y ∈ subl t → y = t ∨ ∃ x ∈ subl t, y ∈ kids x := by
  intro t
  induction t using T_ind with
  | h k ts ih =>
    intro y hy
    rcases subl_inv hy with h | ⟨z, hz, hy⟩
    · exact Or.inl h
    · rcases ih z (by rw [kids_nd] at hz; exact hz) hy with h | ⟨x, hx, hyx⟩
      · exact Or.inr ⟨_, subl_self _, by rw [h]; exact hz⟩
      · exact Or.inr ⟨x, subl_of_kid hz hx, hyx⟩
theorem kid_id {M : Mem} {tb : List T} (h : MT M tb) {id : Nat} (hid : id < 16 + tb.length) {y : T} (hy : y ∈ kids (dn tb id)) : ∃ k, k < id ∧ dn tb k = y := by
  obtain ⟨j, hj, e⟩ := List.getElem_of_mem hy
  obtain ⟨k, k1, -, k3⟩ := child_ok h hid (j := j) hj
  exact ⟨k, k1, by rw [k3, e]⟩
theorem sub_id {M : Mem} {tb : List T} (h : MT M tb) : ∀ (id : Nat), id < 16 + tb.length → ∀ y ∈ subl (dn tb id), ∃ i, i ≤ id ∧ dn tb i = y := by
  intro id
  induction id using Nat.strongRecOn with
  | ind id ih =>
    intro hid y hy
    rcases subl_inv hy with e | ⟨x, hx, hy⟩
    · exact ⟨id, Nat.le_refl _, e.symm⟩
    · obtain ⟨k, k1, k2⟩ := kid_id h hid hx
      obtain ⟨i, i1, i2⟩ := ih k k1 (by omega) y (by rw [k2]; exact hy)
      exact ⟨i, by omega, i2⟩
theorem kid_lt {M : Mem} {tb : List T} (h : MT M tb) {i j : Nat} (hi : i < 16 + tb.length) (hj : j < 16 + tb.length) (hk : dn tb j ∈ kids (dn tb i)) : j < i := by
  obtain ⟨k, k1, k2⟩ := kid_id h hi hk
  have := dn_inj h.1 (by omega) hj k2
  omega
theorem nz0 : nz (nI 0) = nI 0 := by decide
theorem nz1 : nz (nI 1) = nI 1 := by decide
def MK (M : Mem) (form : Nat) (S : Nat → Prop) : Prop := ∀ j, j < 16 ∨ j ≤ form → (S j → M 228 j = nI 1) ∧ (¬ S j → M 228 j = nI 0)
def mkP (tb : List T) (form k j : Nat) : Prop := j = form ∨ ∃ i, k < i ∧ i ≤ form ∧ 16 ≤ i ∧ dn tb i ∈ subl (dn tb form) ∧ dn tb j ∈ kids (dn tb i)
theorem mkP_sub {M : Mem} {tb : List T} (h : MT M tb) {form j : Nat} (hf : form < 16 + tb.length) (hj : j < 16 + tb.length) (k : Nat) (hk : k ≤ j ∨ k < 16) : mkP tb form k j ↔ dn tb j ∈ subl (dn tb form) := by
  constructor
  · rintro (e | ⟨i, -, -, -, q1, q2⟩)
    · rw [e]; exact subl_self _
    · exact subl_kid q1 q2
  · intro hm
    rcases sub_parent hm with e | ⟨x, hx, hy⟩
    · exact Or.inl (dn_inj h.1 hj hf e)
    · obtain ⟨i, i1, i2⟩ := sub_id h form hf x hx
      rw [← i2] at hx hy
      have := kid_lt h (by omega) hj hy
      have i16 : 16 ≤ i := by
        rcases Nat.lt_or_ge i 16 with q | q
        · rw [dn_lf q, kids_lf] at hy; cases hy
        · exact q
      exact Or.inr ⟨i, by omega, i1, i16, hx, hy⟩
theorem mark_43 {tb : List T} {form k : Nat} {k35 : Int32 → Mem → Option Rv} (hf : form < 16 + tb.length) (h16 : 16 ≤ k) (hkf : k ≤ form) :
    ∀ (n c : Nat) (M : Mem), MT M tb → c ≤ nkid (dn tb k) → nkid (dn tb k) - c < n → MK M form (fun j => mkP tb form k j ∨ (dn tb k ∈ subl (dn tb form) ∧ ∃ c', c' < c ∧ ∃ hc : c' < nkid (dn tb k), dn tb j = (kids (dn tb k))[c'])) →
    ∃ M', f_X7_mark_43 k35 n (nI k) (nI c) M = k35 (nI (k - 1)) M' ∧ MT M' tb ∧ MK M' form (mkP tb form (k - 1)) ∧ ∀ c, c ≠ 228 → M' c = M c := by
  intro n
  induction n with
  | zero => intro c M _ _ h; omega
  | succ n ih =>
    intro c M h h1 h2 hM
    have hl := h.2.1
    have hk : k < 16 + tb.length := by omega
    have nk := MT_nk h hk
    have hmk : (dn tb k ∈ subl (dn tb form) → M 228 k = nI 1) ∧ (¬ dn tb k ∈ subl (dn tb form) → M 228 k = nI 0) := by
      have := hM k (Or.inr hkf)
      have hs := mkP_sub h hf hk k (Or.inl (Nat.le_refl _))
      refine ⟨fun q => this.1 (Or.inl (hs.mpr q)), fun q => this.2 ?_⟩
      rintro (a | ⟨a, -⟩)
      · exact q (hs.mp a)
      · exact q a
    rw [f_X7_mark_43, childMany_ok h hk, Option.bind_some]
    unfold f_X7_mark_79
    dsimp only
    -- the end at this node
    have fin : (dn tb k ∈ subl (dn tb form) → c = nkid (dn tb k)) → ∃ M', k35 (nI k - nI 1) M = k35 (nI (k - 1)) M' ∧ MT M' tb ∧ MK M' form (mkP tb form (k - 1)) ∧ ∀ c, c ≠ 228 → M' c = M c := by
      intro hc
      rw [nsub (by omega)]
      refine ⟨M, rfl, h, fun j hj => ?_, fun _ _ => rfl⟩
      have e : mkP tb form (k - 1) j ↔ (mkP tb form k j ∨ (dn tb k ∈ subl (dn tb form) ∧ ∃ c', c' < c ∧ ∃ hc : c' < nkid (dn tb k), dn tb j = (kids (dn tb k))[c'])) := by
        constructor
        · rintro (q | ⟨i, i1, i2, i3, i4, i5⟩)
          · exact Or.inl (Or.inl q)
          · by_cases q : i = k
            · subst q
              obtain ⟨c', p1, p2⟩ := List.getElem_of_mem i5
              exact Or.inr ⟨i4, c', by rw [hc i4]; exact p1, p1, p2.symm⟩
            · exact Or.inl (Or.inr ⟨i, by omega, i2, i3, i4, i5⟩)
        · rintro ((q | ⟨i, i1, i2, i3, i4, i5⟩) | ⟨q, c', c1, c2, c3⟩)
          · exact Or.inl q
          · exact Or.inr ⟨i, by omega, i2, i3, i4, i5⟩
          · exact Or.inr ⟨k, by omega, hkf, h16, q, by rw [c3]; exact List.getElem_mem _⟩
      have := hM j hj
      exact ⟨fun q => this.1 (e.mp q), fun q => this.2 (fun p => q (e.mpr p))⟩
    by_cases hc : c < nkid (dn tb k)
    · rw [if_pos ((nlt (by omega) (by omega)).mpr hc)]
      rw [mrd_n (by omega) (by omega), Option.bind_some]
      by_cases hs : dn tb k ∈ subl (dn tb form)
      · obtain ⟨u, u1, u2, u3⟩ := child_ok h hk hc
        rw [hmk.1 hs]
        simp (disch := omega) only [neq, show ¬ (1 : Nat) = 0 by omega, if_false, u2, Option.bind_some, nz1, mst_n, nI_add]
        have h' : MT (mwr M 228 u (nI 1)) tb := h.congr (fun c a b => mwr_ne _ _ _ (by omega)) (mwr_ne _ _ _ (by omega)) (mwr_off _ _ _ (by omega)) (mwr_off _ _ _ (by omega))
        obtain ⟨M', e1, f1, g1, o1⟩ := ih (c + 1) (mwr M 228 u (nI 1)) h' (by omega) (by omega) (fun j hj => by
          have hjl : j < 16 + tb.length := by omega
          have := hM j hj
          by_cases q : j = u
          · subst q
            refine ⟨fun _ => mwr_at _ _ _ _, fun p => absurd (Or.inr ⟨hs, c, by omega, hc, u3⟩) p⟩
          · rw [mwr_in _ q]
            refine ⟨fun p => this.1 ?_, fun p => this.2 (fun r => p ?_)⟩
            · rcases p with p | ⟨p1, c', p2, p3, p4⟩
              · exact Or.inl p
              · by_cases r : c' = c
                · subst r
                  exact absurd (dn_inj h.1 hjl (by omega) (by rw [p4, u3])) q
                · exact Or.inr ⟨p1, c', by omega, p3, p4⟩
            · rcases r with r | ⟨p1, c', p2, p3, p4⟩
              · exact Or.inl r
              · exact Or.inr ⟨p1, c', by omega, p3, p4⟩)
        exact ⟨M', e1, f1, g1, fun c hc => by rw [o1 c hc, mwr_ne _ _ _ hc]⟩
      · rw [hmk.2 hs, if_pos rfl]
        exact fin (fun q => absurd q hs)
    · rw [if_neg (fun q => hc ((nlt (by omega) (by omega)).mp q))]
      exact fin (fun _ => by omega)
theorem mark_35 {tb : List T} {form : Nat} (hf : form < 16 + tb.length) : ∀ (n k : Nat) (M : Mem), MT M tb → k ≤ form → k < n → MK M form (mkP tb form k) → ∃ M', f_X7_mark_35 n (nI k) M = some (nI 0, M') ∧ MT M' tb ∧ MK M' form (fun j => dn tb j ∈ subl (dn tb form)) ∧ ∀ c, c ≠ 228 → M' c = M c := by
  intro n
  induction n with
  | zero => intro k M _ _ h; omega
  | succ n ih =>
    intro k M h h1 h2 hM
    have hl := h.2.1
    rw [f_X7_mark_35]
    by_cases hk : k < 16
    · rw [if_pos ((nlt (by omega) (by omega)).mpr hk)]
      refine ⟨M, rfl, h, fun j hj => ?_, fun _ _ => rfl⟩
      have hs := mkP_sub h hf (j := j) (by omega) k (Or.inr hk)
      exact ⟨fun q => (hM j hj).1 (hs.mpr q), fun q => (hM j hj).2 (fun p => q (hs.mp p))⟩
    · rw [if_neg (fun q => hk ((nlt (by omega) (by omega)).mp q))]
      have nk := MT_nk h (show k < 16 + tb.length by omega)
      obtain ⟨M1, e1, f1, g1, o1⟩ := mark_43 (k35 := f_X7_mark_35 n) hf (by omega) h1 fuelN 0 M h (Nat.zero_le _) (by unfold fuelN; omega) (fun j hj => by
        have := hM j hj
        refine ⟨fun q => this.1 ?_, fun q => this.2 (fun p => q (Or.inl p))⟩
        rcases q with q | ⟨-, c', q, -⟩
        · exact q
        · omega)
      rw [e1]
      obtain ⟨M2, e2, f2, g2, o2⟩ := ih (k - 1) M1 f1 (by omega) (by omega) g1
      exact ⟨M2, e2, f2, g2, fun c hc => by rw [o2 c hc, o1 c hc]⟩
theorem mark_2 {tb : List T} {form : Nat} (hf : form < 16 + tb.length) : ∀ (n k : Nat) (M : Mem), MT M tb → k ≤ form + 17 → form + 17 - k < n → (∀ j, j < k → j < 16 ∨ j ≤ form → M 228 j = nI 0) → ∃ M', f_X7_mark_2 n (nI form) (nI k) M = some (nI 0, M') ∧ MT M' tb ∧ MK M' form (fun j => dn tb j ∈ subl (dn tb form)) ∧ ∀ c, c ≠ 228 → M' c = M c := by
  intro n
  induction n with
  | zero => intro k M _ _ h; omega
  | succ n ih =>
    intro k M h h1 h2 hM
    have hl := h.2.1
    rw [f_X7_mark_2]
    unfold f_X7_mark_13
    have go : k < 16 ∨ k ≤ form → ∃ M', ((mst M 228 8000 (nI k) (nz (nI 0))).bind fun M1 => f_X7_mark_2 n (nI form) (nI k + nI 1) M1) = some (nI 0, M') ∧ MT M' tb ∧ MK M' form (fun j => dn tb j ∈ subl (dn tb form)) ∧ ∀ c, c ≠ 228 → M' c = M c := fun hk => by
      rw [nz0, mst_n (by omega) (by omega), Option.bind_some, nI_add]
      obtain ⟨M', e1, f1, g1, o1⟩ := ih (k + 1) (mwr M 228 k (nI 0)) (h.congr (fun c a b => mwr_ne _ _ _ (by omega)) (mwr_ne _ _ _ (by omega)) (mwr_off _ _ _ (by omega)) (mwr_off _ _ _ (by omega))) (by omega) (by omega) (fun j hj hj2 => by
        by_cases q : j = k
        · subst q; exact mwr_at _ _ _ _
        · rw [mwr_in _ q]; exact hM j (by omega) hj2)
      exact ⟨M', e1, f1, g1, fun c hc => by rw [o1 c hc, mwr_ne _ _ _ hc]⟩
    by_cases q1 : form < k
    · rw [if_pos ((nlt (by omega) (by omega)).mpr q1)]
      by_cases q2 : k < 16
      · rw [if_pos ((nlt (by omega) (by omega)).mpr q2)]
        exact go (Or.inl q2)
      · rw [if_neg (fun q => q2 ((nlt (by omega) (by omega)).mp q)), nz1, mst_n (by omega) (by omega), Option.bind_some]
        obtain ⟨M', e1, f1, g1, o1⟩ := mark_35 hf fuelN form (mwr M 228 form (nI 1)) (h.congr (fun c a b => mwr_ne _ _ _ (by omega)) (mwr_ne _ _ _ (by omega)) (mwr_off _ _ _ (by omega)) (mwr_off _ _ _ (by omega))) (Nat.le_refl _) (by unfold fuelN; omega) (fun j hj => by
          by_cases q : j = form
          · subst q
            exact ⟨fun _ => mwr_at _ _ _ _, fun p => absurd (Or.inl rfl) p⟩
          · rw [mwr_in _ q]
            refine ⟨?_, fun _ => hM j (by omega) hj⟩
            rintro (p | ⟨i, i1, i2, -⟩)
            · exact absurd p q
            · omega)
        exact ⟨M', e1, f1, g1, fun c hc => by rw [o1 c hc, mwr_ne _ _ _ hc]⟩
    · rw [if_neg (fun q => q1 ((nlt (by omega) (by omega)).mp q))]
      exact go (Or.inr (by omega))
theorem mark_ok {M : Mem} {tb : List T} (h : MT M tb) {form : Nat} (hf : form < 16 + tb.length) : ∃ M', f_X7_mark (nI form) M = some (nI 0, M') ∧ MT M' tb ∧ MK M' form (fun j => dn tb j ∈ subl (dn tb form)) ∧ ∀ c, c ≠ 228 → M' c = M c := by
  have hl := h.2.1
  exact mark_2 hf fuelN 0 M h (by omega) (by unfold fuelN; omega) (fun j hj => by omega)
