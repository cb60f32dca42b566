/-! questions about parts, and what would be -/
/-- both sides look a wish up -/
theorem both_find {MC MM : Mem} {s : Sta} {c : Nat} (hc : isSc c) (hC : RC MC c s) (hM : RM (MM 219) s) (hs : okS s) (x : Int32) :
    (∃ k, ∃ hk : k < s.2.2.length, x = nI k ∧ okW s.2.2[k] ∧ RCw MC (c + 3 + 3 * k) s.2.2[k] ∧ RMw (MM 219) k s.2.2[k] ∧ f_X4_find c x MC = some (nI (c + 3 + 3 * k), MC) ∧ f_X7_isThere x MM = some (nI 1, MM)) ∨ (f_X4_find c x MC = some (nI 0, MC) ∧ f_X7_isThere x MM = some (nI 0, MM)) := by
  rcases find_ok hc hC hs x with ⟨k, hf, e⟩ | ⟨hno, e⟩
  · rcases isThere_ok hM hs x with ⟨k', hf', e'⟩ | ⟨hno', -⟩
    · have := fnd_uniq hs hf' hf
      subst this
      obtain ⟨rfl, hk, hth⟩ := hf'
      exact Or.inl ⟨k', hk, rfl, hs.2.2.2 _ (List.getElem_mem hk), hC.2.2.2.2 k' hk, hM.2.2.2.2 k' hk, e, e'⟩
    · exact absurd hf (hno' k)
  · rcases isThere_ok hM hs x with ⟨k', hf', -⟩ | ⟨-, e'⟩
    · exact absurd hf' (hno k')
    · exact Or.inr ⟨e, e'⟩
theorem ref_ne {c k : Nat} (hc : isSc c) (hk : k < 8) : ¬ nI (c + 3 + 3 * k) = nI 0 := fun q => by
  have := isSc_ge hc
  have := (neq (by omega) (by omega)).mp q
  omega
theorem isPart_ok {MM : Mem} {k : Nat} {w : Wsh} (hk : k < 8) (hw : okW w) (hR : RMw (MM 219) k w) (hth : f_X7_isThere (nI k) MM = some (nI 1, MM)) (y : Int32) : (∃ p, p < (wP w).length ∧ y = nI p ∧ f_X7_isPart (nI k) y MM = some (nI 1, MM)) ∨ ((∀ p, p < (wP w).length → y ≠ nI p) ∧ f_X7_isPart (nI k) y MM = some (nI 0, MM)) := by
  have h8 := hw.2.2.2.1
  unfold f_X7_isPart f_X7_isPart_33 f_X7_isPart_34
  rw [hth, Option.bind_some]
  dsimp only
  rw [if_neg (show ¬ nI 1 = nI 0 by decide), w_ok, Option.bind_some]
  dsimp only
  rw [nI_add, mrd_n (by omega) (by omega), Option.bind_some, hR.2.2.2.2.2.1]
  rcases in_ok y (n := (wP w).length) (by omega) MM with ⟨p, hp, rfl, e⟩ | ⟨hno, e⟩
  · rw [e, Option.bind_some]
    dsimp only
    rw [bI_t, if_neg (show ¬ nI 1 = nI 0 by decide), mrz_1]
    exact Or.inl ⟨p, hp, rfl, rfl⟩
  · rw [e, Option.bind_some]
    dsimp only
    rw [bI_f, if_pos rfl, mrz_0]
    exact Or.inr ⟨hno, rfl⟩
theorem RelC'.now {M : Mem} {a : Abs} {cn cs : Nat} {ch : Nat → Nat} {tb : List T} (h : RelC' M a cn cs ch tb) : M 0 8 = nI cn ∧ isSc cn ∧ RC M cn a.1 ∧ FT M tb := ⟨h.1.1, h.1.2.2.2.1.1, h.2.2.1, h.2.1⟩
theorem RelC'.spell {M M' : Mem} {a : Abs} {cn cs : Nat} {ch : Nat → Nat} {tb : List T} (h : RelC' M a cn cs ch tb) (hA : okA a) (f : ∀ d, d ≠ 17 → d ≠ 19 → d ≠ 20 → d ≠ 21 → M' d = M d) : RelC' M' a cn cs ch tb := h.keep hA (fun c hc => f c (by omega) (by omega) (by omega) (by omega)) (by rw [f 22 (by omega) (by omega) (by omega) (by omega)]) (h.2.1.congr (fun c _ _ => f c (by omega) (by omega) (by omega) (by omega)))
theorem s_letter (x y z : Int32) : stp Rel (f_X6_letter x y z) (f_X7_letter x y z) := by
  refine stp_of (fun MC MM a hA hC hM => ?_)
  have hC0 := hC
  obtain ⟨cn, cs, ch, tb, hC⟩ := hC
  obtain ⟨c1, c4, r1, r0⟩ := hC.now
  have S := fun v => same_of hA hC0 hM v
  have gn := isSc_ge c4
  unfold f_X6_letter f_X6_letter_28 f_X6_letter_69 f_X7_letter f_X7_letter_49
  rw [c1, mlS_ok c4, Option.bind_some]
  rcases both_find c4 r1 hM.1 hA.1 x with ⟨k, hk, rfl, hw, rw1, rw2, e, e'⟩ | ⟨e, e'⟩
  · have h8 := hA.1.2.2.1
    have h8p := hw.2.2.2.1
    rw [e, Option.bind_some]
    dsimp only
    rw [if_neg (ref_ne c4 (by omega)), maW_ok c4 (by omega)]
    rcases isPart_ok (by omega) hw rw2 e' y with ⟨p, hp, rfl, ep⟩ | ⟨hno, ep⟩
    · obtain ⟨t1, t2⟩ := hw.2.2.2.2 (wP a.1.2.2[k])[p] (List.getElem_mem hp)
      rw [ep, Option.bind_some, if_neg (neg_n (show p < 2147483648 by omega)), Option.bind_some]
      dsimp only
      rw [if_neg (show ¬ nI 1 = nI 0 by decide)]
      simp only [rw1.2.2.1]
      rw [if_pos ((nlt (by omega) (by omega)).mpr hp)]
      have hwl := txt_len _ t1
      have hwle := wid_le _ t1
      rcases neg_lt (x := z) (n := (txt (wP a.1.2.2[k])[p]).length) (by omega) with q | ⟨q1, q2⟩ | ⟨j, hj, rfl⟩
      · rw [if_pos (show z < nI 0 from q), if_pos (show z < nI 0 from q)]
        exact S _
      · obtain ⟨MC', e1, s1, l1, o1⟩ := spell_ok (by omega) (show p < 8 by omega) t1 t2 (rw1.2.2.2.2.2.2 p hp)
        obtain ⟨id, MM', tb', e2, f2, s2, i2, d2, o2⟩ := mloadAlone_ok (show k < 8 by omega) (show p < 8 by omega) t2 (rw2.2.2.2.2.2.2 p hp)
        have aa := (f2.2.2.2.2.2.1 id i2).2.2.1
        have hl2 := f2.2.1
        rw [if_neg q1, if_neg q1, e1, Option.bind_some]
        dsimp only
        rw [if_neg q2, e2, Option.bind_some]
        dsimp only
        rw [mrd_n (by omega) (by omega), Option.bind_some, aa, d2, ← hwl, if_neg q2]
        exact same_of hA ⟨cn, cs, ch, tb, hC.spell hA o1⟩ (hM.fw o2) _
      · obtain ⟨MC', e1, s1, l1, o1⟩ := spell_ok (by omega) (show p < 8 by omega) t1 t2 (rw1.2.2.2.2.2.2 p hp)
        obtain ⟨id, MM', tb', e2, f2, s2, i2, d2, o2⟩ := mloadAlone_ok (show k < 8 by omega) (show p < 8 by omega) t2 (rw2.2.2.2.2.2.2 p hp)
        have aa := (f2.2.2.2.2.2.1 id i2).2.2.1
        have hl2 := f2.2.1
        have hlt : nI j < nI (txt (wP a.1.2.2[k])[p]).length := (nlt (by omega) (by omega)).mpr hj
        have el := letterOf_ok f2 i2 (p := j) (by rw [d2]; exact t2) (by rw [d2]; exact hj)
        simp only [d2] at el
        have sj := s1 j hj
        rw [Nat.zero_add] at sj
        rw [if_neg (neg_n (by omega)), if_neg (neg_n (by omega)), e1, Option.bind_some]
        dsimp only
        rw [if_pos hlt, mrd_n (by omega) (by omega), Option.bind_some, sj, e2, Option.bind_some]
        dsimp only
        rw [mrd_n (by omega) (by omega), Option.bind_some, aa, d2, ← hwl, if_pos hlt, el, Option.bind_some]
        exact same_of hA ⟨cn, cs, ch, tb, hC.spell hA o1⟩ (hM.fw o2) _
    · rw [ep, Option.bind_some, Option.bind_some]
      dsimp only
      rw [if_pos rfl]
      simp only [rw1.2.2.1]
      rcases neg_lt (x := y) (n := (wP a.1.2.2[k]).length) (by omega) with q | ⟨q1, q2⟩ | ⟨j, hj, rfl⟩
      · rw [if_pos (show y < nI 0 from q)]; exact S _
      · rw [if_neg q1, if_neg q2]; exact S _
      · exact absurd rfl (hno j hj)
  · unfold f_X7_isPart f_X7_isPart_33 f_X7_isPart_34
    rw [e, Option.bind_some, e', Option.bind_some]
    dsimp only
    rw [if_pos rfl, if_pos rfl, mrz_0, Option.bind_some]
    dsimp only
    rw [bI_f, if_pos rfl]
    exact S _
theorem s_part (x y z : Int32) : stp Rel (f_X6_part x y z) (f_X7_part x y z) := by
  refine stp_of (fun MC MM a hA hC hM => ?_)
  have hC0 := hC
  obtain ⟨cn, cs, ch, tb, hC⟩ := hC
  obtain ⟨c1, c4, r1, r0⟩ := hC.now
  have S := fun v => same_of hA hC0 hM v
  have gn := isSc_ge c4
  unfold f_X6_part f_X6_part_28 f_X6_part_118 f_X7_part f_X7_part_89
  rw [c1, mlS_ok c4, Option.bind_some]
  rcases both_find c4 r1 hM.1 hA.1 x with ⟨k, hk, rfl, hw, rw1, rw2, e, e'⟩ | ⟨e, e'⟩
  · have h8 := hA.1.2.2.1
    have h8p := hw.2.2.2.1
    rw [e, Option.bind_some]
    dsimp only
    rw [if_neg (ref_ne c4 (by omega)), maW_ok c4 (by omega)]
    rcases isPart_ok (by omega) hw rw2 e' y with ⟨p, hp, rfl, ep⟩ | ⟨hno, ep⟩
    · obtain ⟨t1, t2⟩ := hw.2.2.2.2 (wP a.1.2.2[k])[p] (List.getElem_mem hp)
      rw [ep, Option.bind_some, if_neg (neg_n (show p < 2147483648 by omega)), Option.bind_some]
      dsimp only
      rw [if_neg (show ¬ nI 1 = nI 0 by decide)]
      simp only [rw1.2.2.1]
      rw [if_pos ((nlt (by omega) (by omega)).mpr hp)]
      obtain ⟨id, MM', tb', e2, f2, s2, i2, d2, o2⟩ := mloadAlone_ok (show k < 8 by omega) (show p < 8 by omega) t2 (rw2.2.2.2.2.2.2 p hp)
      have a5 := (f2.2.2.2.2.2.1 id i2).2.1
      have a6 := (f2.2.2.2.2.2.1 id i2).2.2.1
      have hl2 := f2.2.1
      have hM' := hM.fw o2
      rw [e2, Option.bind_some]
      dsimp only
      by_cases h0 : z = nI 0
      · rw [if_pos h0, if_pos h0, mrd_n (by omega) (by omega), Option.bind_some, (rw1.2.2.2.2.2.2 p hp).1, mrd_n (by omega) (by omega), Option.bind_some, a5, d2]
        exact same_of hA hC0 hM' _
      rw [if_neg h0, if_neg h0]
      by_cases h1 : z = nI 1
      · obtain ⟨MC', e1, s1, l1, o1⟩ := spell_ok (by omega) (show p < 8 by omega) t1 t2 (rw1.2.2.2.2.2.2 p hp)
        rw [if_pos h1, if_pos h1, e1, Option.bind_some, mrd_n (by omega) (by omega), Option.bind_some, a6, d2, txt_len _ t1]
        exact same_of hA ⟨cn, cs, ch, tb, hC.spell hA o1⟩ hM' _
      rw [if_neg h1, if_neg h1]
      have LA := loadAlone_ok (M := MC) (by omega) (show p < 8 by omega) r0 t1 t2 (rw1.2.2.2.2.2.2 p hp)
      obtain ⟨ic, MC', tc, e1, f1, s1, i1, d1, o1⟩ := LA
      obtain ⟨-, -, -, b6, b7, -⟩ := f1.2.2.2.2.2.1 ic i1
      have hl1 := f1.2.1
      have hC' : RelC' MC' a cn cs ch tc := hC.fq hA (fun c hc => o1 c (by omega)) f1
      by_cases h2 : z = nI 2
      · obtain ⟨MM2, e3, f3, o3⟩ := signs_ok f2 i2
        rw [if_pos h2, if_pos h2, e1, Option.bind_some]
        dsimp only
        rw [mrd_n (by omega) (by omega), Option.bind_some, b6, d1, e3, Option.bind_some, d2]
        exact same_of hA ⟨cn, cs, ch, tc, hC'⟩ (hM'.keep (fun c hc => o3 c (by omega)) (fun i _ => by rw [o3 218 (by omega)])) _
      rw [if_neg h2, if_neg h2]
      by_cases h3 : z = nI 3
      · obtain ⟨MM2, e3, f3, o3⟩ := isTrue_ok f2 i2
        have hM2 := hM'.keep (M' := MM2) (fun c hc => o3 c (by omega)) (fun i _ => by rw [o3 218 (by omega)])
        rw [if_pos h3, if_pos h3, e1, Option.bind_some]
        dsimp only
        rw [mrd_n (by omega) (by omega), Option.bind_some, b7, d1, e3, Option.bind_some, d2]
        dsimp only
        cases tae (wP a.1.2.2[k])[p] with
        | true => rw [bI_t, if_neg (show ¬ nI 1 = nI 0 by decide), if_neg (show ¬ nI 1 = nI 0 by decide)]; exact same_of hA ⟨cn, cs, ch, tc, hC'⟩ hM2 _
        | false => rw [bI_f, if_pos rfl, if_pos rfl]; exact same_of hA ⟨cn, cs, ch, tc, hC'⟩ hM2 _
      rw [if_neg h3, if_neg h3]
      exact same_of hA hC0 hM' _
    · rw [ep, Option.bind_some, Option.bind_some]
      dsimp only
      rw [if_pos rfl]
      simp only [rw1.2.2.1]
      rcases neg_lt (x := y) (n := (wP a.1.2.2[k]).length) (by omega) with q | ⟨q1, q2⟩ | ⟨j, hj, rfl⟩
      · rw [if_pos (show y < nI 0 from q)]; exact S _
      · rw [if_neg q1, if_neg q2]; exact S _
      · exact absurd rfl (hno j hj)
  · unfold f_X7_isPart f_X7_isPart_33 f_X7_isPart_34
    rw [e, Option.bind_some, e', Option.bind_some]
    dsimp only
    rw [if_pos rfl, if_pos rfl, mrz_0, Option.bind_some]
    dsimp only
    rw [bI_f, if_pos rfl]
    exact S _
theorem s_would (x y : Int32) : stp Rel (f_X6_would x y) (f_X7_would x y) := by
  refine stp_of (fun MC MM a hA hC hM => ?_)
  have hC0 := hC
  obtain ⟨cn, cs, ch, tb, hC⟩ := hC
  obtain ⟨c1, c4, r1, r0⟩ := hC.now
  have S := fun v => same_of hA hC0 hM v
  have gn := isSc_ge c4
  unfold f_X6_would f_X6_would_25 f_X7_would f_X7_would_44
  rw [c1, mlS_ok c4, Option.bind_some]
  rcases both_find c4 r1 hM.1 hA.1 x with ⟨k, hk, rfl, hw, rw1, rw2, e, e'⟩ | ⟨e, e'⟩
  · have h8 := hA.1.2.2.1
    have e63 : nI 63 = nI 64 - nI 1 := by rw [nsub (by omega)]
    rw [e', Option.bind_some]
    dsimp only
    rw [if_neg (show ¬ nI 1 = nI 0 by decide), e63]
    rw [e, Option.bind_some]
    dsimp only
    rw [if_neg (ref_ne c4 (by omega))]
    rcases in_ok y (n := 64) (by omega) MM with ⟨p, hp, rfl, ep⟩ | ⟨hno, ep⟩
    · rw [ep, Option.bind_some]
      dsimp only
      rw [bI_t, if_neg (show ¬ nI 1 = nI 0 by decide), if_neg (neg_n (show p < 2147483648 by omega)), if_pos ((nlt (by omega) (by omega)).mpr hp), c1, mlS_ok c4, Option.bind_some, mrd_n (by omega) (by omega), Option.bind_some]
      simp only [r1.1, hM.1.2.1, bI_0', bI_1]
      cases a.1.1 with
      | true => rw [if_neg (by decide), if_pos rfl]; exact S _
      | false =>
        obtain ⟨MC', tb', e1, f1, o1⟩ := verdictBehind_ok (by omega) hw r0 rw1 hp
        obtain ⟨MM', e2, o2⟩ := wouldBe_ok (by omega) hw hp rw2
        rw [if_pos rfl, if_neg (by decide), maW_ok c4 (by omega), Option.bind_some, e1, Option.bind_some, e2, Option.bind_some]
        exact same_of hA ⟨cn, cs, ch, tb', hC.fq hA o1 f1⟩ (hM.fw o2) _
    · rw [ep, Option.bind_some]
      dsimp only
      rw [bI_f, if_pos rfl]
      rcases neg_lt (x := y) (n := 64) (by omega) with q | ⟨q1, q2⟩ | ⟨j, hj, rfl⟩
      · rw [if_pos (show y < nI 0 from q)]; exact S _
      · rw [if_neg q1, if_neg q2]; exact S _
      · exact absurd rfl (hno j hj)
  · rw [e, Option.bind_some, e', Option.bind_some]
    dsimp only
    rw [if_pos rfl, if_pos rfl]
    exact S _
/-! bears -/
def bcq (w : Wsh) (q e : Nat) : Bool := if q < 2 then wb w e != 0 else wb w e == 1
def lsF (f : Nat → Bool) : Nat → Nat → Int32
  | 0, _ => -5
  | m + 1, k => if f k = true then nI k else lsF f m (k + 1)
def cF (f : Nat → Bool) : Nat → Nat → Nat
  | 0, _ => 0
  | m + 1, k => one (f k) + cF f m (k + 1)
theorem cF_le (f : Nat → Bool) : ∀ m k, cF f m k ≤ m := by
  intro m
  induction m with
  | zero => intro k; exact Nat.le_refl _
  | succ m ih =>
    intro k
    have h1 : ∀ b : Bool, one b ≤ 1 := fun b => by cases b <;> decide
    have := h1 (f k)
    have := ih (k + 1)
    unfold cF
    omega
theorem cb_51 {w : Wsh} (hw : okW w) {q : Nat} (hq : q < 4) {M : Mem} (h26 : ∀ j, j < 64 → M 26 j = nI (wb w j)) : ∀ (n k acc : Nat), k ≤ 64 → 64 - k < n → acc ≤ k → f_X6_bears_51 n (nI q) (nI acc) (nI k) M = some (if q = 1 ∨ q = 3 then lsF (bcq w q) (64 - k) k else nI (acc + cF (bcq w q) (64 - k) k), M) := by
  intro n
  induction n with
  | zero => intro k acc _ h; omega
  | succ n ih =>
    intro k acc h1 h2 h3
    rw [f_X6_bears_51]
    unfold f_X6_bears_97 f_X6_bears_114 f_X6_bears_117 f_X6_bears_125 f_X6_bears_141 f_X6_bears_148
    by_cases hk : k < 64
    · have hwl := wb_le hw k
      have hs : 64 - k = (64 - (k + 1)) + 1 := by omega
      have i0 := ih (k + 1) acc (by omega) (by omega) (by omega)
      have i1 := ih (k + 1) (acc + 1) (by omega) (by omega) (by omega)
      rw [if_pos ((nlt (by omega) (by omega)).mpr hk), mrd_n hk (by omega), Option.bind_some, Option.bind_some, h26 k hk]
      rw [hs]
      unfold lsF cF
      have hb : bcq w q k = if q < 2 then wb w k != 0 else wb w k == 1 := rfl
      have mid : ∀ b : Bool, b = bcq w q k → (if bI b = nI 0 then (if bI b = nI 0 then f_X6_bears_51 n (nI q) (nI acc) (nI k + nI 1) M else f_X6_bears_51 n (nI q) (nI acc + nI 1) (nI k + nI 1) M) else if nI q = nI 1 then some (nI k, M) else if nI q = nI 3 then some (nI k, M) else if bI b = nI 0 then f_X6_bears_51 n (nI q) (nI acc) (nI k + nI 1) M else f_X6_bears_51 n (nI q) (nI acc + nI 1) (nI k + nI 1) M) = some (if q = 1 ∨ q = 3 then (if bcq w q k = true then nI k else lsF (bcq w q) (64 - (k + 1)) (k + 1)) else nI (acc + (one (bcq w q k) + cF (bcq w q) (64 - (k + 1)) (k + 1))), M) := by
        intro b hb2
        rw [← hb2]
        simp (disch := omega) only [bI_0', neq, nI_add]
        cases b with
        | false =>
          rw [if_pos rfl, if_pos rfl, i0, if_neg (show ¬ false = true by decide), show one false = 0 from rfl, Nat.zero_add]
        | true =>
          rw [if_neg (show ¬ true = false by decide), if_pos (show true = true from rfl), show one true = 1 from rfl]
          by_cases a1 : q = 1
          · rw [if_pos a1, if_pos (Or.inl a1)]
          · rw [if_neg a1]
            by_cases a3 : q = 3
            · rw [if_pos a3, if_pos (Or.inr a3)]
            · rw [if_neg a3, if_neg (show ¬ true = false by decide), i1, if_neg (by omega), if_neg (by omega), Nat.add_assoc]
      have mT := mid true
      have mF := mid false
      rw [bI_t] at mT
      rw [bI_f] at mF
      simp (disch := omega) only [nlt] at *
      by_cases q2 : q < 2
      · rw [if_pos q2] at hb ⊢
        by_cases z : wb w k = 0
        · rw [if_pos ((neq (by omega) (by omega)).mpr z)]
          exact mF (by rw [hb, z]; rfl)
        · rw [if_neg (fun p => z ((neq (by omega) (by omega)).mp p))]
          exact mT (by rw [hb]; simpa using z)
      · rw [if_neg q2] at hb ⊢
        by_cases z : wb w k = 1
        · rw [if_pos ((neq (by omega) (by omega)).mpr z)]
          exact mT (by rw [hb, z]; rfl)
        · rw [if_neg (fun p => z ((neq (by omega) (by omega)).mp p))]
          exact mF (by rw [hb]; simpa using z)
    · have : k = 64 := by omega
      subst this
      rw [if_neg (by decide)]
      simp (disch := omega) only [neq]
      rw [show 64 - 64 = 0 from rfl]
      unfold lsF cF
      by_cases a1 : q = 1
      · rw [if_pos a1, if_pos (Or.inl a1)]
      · rw [if_neg a1]
        by_cases a3 : q = 3
        · rw [if_pos a3, if_pos (Or.inr a3)]
        · rw [if_neg a3, if_neg (by omega), Nat.add_zero]
theorem mb_45 {w : Wsh} (hw : okW w) {q k : Nat} (hq : q < 4) (hk : k < 8) : ∀ (n e : Nat) (M : Mem), e ≤ 64 → e < n → RMw (M 219) k w → ∃ M', f_X7_bears_45 n (nI k) (nI q) (nI (cF (bcq w q) (64 - e) e)) (lsF (bcq w q) (64 - e) e) (nI e - nI 1) M = some (if q = 1 ∨ q = 3 then lsF (bcq w q) 64 0 else nI (cF (bcq w q) 64 0), M') ∧ FW M M' := by
  intro n
  induction n with
  | zero => intro e M _ h; omega
  | succ n ih =>
    intro e M h1 h2 hR
    rw [f_X7_bears_45]
    unfold f_X7_bears_88 f_X7_bears_101 f_X7_bears_115 f_X7_bears_135
    rcases Nat.eq_zero_or_pos e with q0 | q0
    · subst q0
      rw [if_pos (by decide)]
      have hrem : nI q - nI q / nI 2 * nI 2 = nI (q % 2) := pk_rem (by omega) (by omega) (by omega)
      rw [hrem]
      simp (disch := omega) only [neq]
      refine ⟨M, ?_, FW.rfl' M⟩
      by_cases a : q = 1 ∨ q = 3
      · rw [if_pos a, if_neg (by omega)]
      · rw [if_neg a, if_pos (by omega)]
    · obtain ⟨d, rfl⟩ : ∃ d, e = d + 1 := ⟨e - 1, by omega⟩
      have hwl := wb_le hw d
      obtain ⟨M1, e1, o1⟩ := wouldBe_ok hk hw (show d < 64 by omega) hR
      rw [nsub (by omega), Nat.add_sub_cancel, if_neg (neg_n (show d < 2147483648 by omega)), e1, Option.bind_some]
      dsimp only
      obtain ⟨M', e2, o2⟩ := ih d M1 (by omega) (by omega) (by rw [o1.1 219 (by omega)]; exact hR)
      refine ⟨M', ?_, o1.tr o2⟩
      rw [← e2]
      have hs : 64 - d = (64 - (d + 1)) + 1 := by omega
      rw [hs]
      have hb : bcq w q d = if q < 2 then wb w d != 0 else wb w d == 1 := rfl
      have lS : lsF (bcq w q) (64 - (d + 1) + 1) d = if bcq w q d = true then nI d else lsF (bcq w q) (64 - (d + 1)) (d + 1) := rfl
      have cS : cF (bcq w q) (64 - (d + 1) + 1) d = one (bcq w q d) + cF (bcq w q) (64 - (d + 1)) (d + 1) := rfl
      rw [lS, cS]
      simp (disch := omega) only [nlt, neq, nI_add, show ¬ (1 : Nat) = 0 by omega, if_true, if_false]
      by_cases q2 : q < 2
      · rw [if_pos q2] at hb ⊢
        by_cases z : wb w d = 0
        · have hf : bcq w q d = false := by rw [hb, z]; rfl
          rw [if_pos z, hf, if_neg (by decide), show one false = 0 from rfl, Nat.add_comm]
        · have hf : bcq w q d = true := by rw [hb]; simpa using z
          rw [if_neg z, hf, if_pos rfl, show one true = 1 from rfl, Nat.add_comm]
      · rw [if_neg q2] at hb ⊢
        by_cases z : wb w d = 1
        · have hf : bcq w q d = true := by rw [hb, z]; rfl
          rw [if_pos z, hf, if_pos rfl, show one true = 1 from rfl, Nat.add_comm]
        · have hf : bcq w q d = false := by rw [hb]; simpa using z
          rw [if_neg z, hf, if_neg (by decide), show one false = 0 from rfl, Nat.add_comm]
theorem s_bears (x y : Int32) : stp Rel (f_X6_bears x y) (f_X7_bears x y) := by
  refine stp_of (fun MC MM a hA hC hM => ?_)
  have hC0 := hC
  obtain ⟨cn, cs, ch, tb, hC⟩ := hC
  obtain ⟨c1, c4, r1, r0⟩ := hC.now
  have S := fun v => same_of hA hC0 hM v
  have gn := isSc_ge c4
  unfold f_X6_bears f_X6_bears_24 f_X7_bears
  rw [c1, mlS_ok c4, Option.bind_some]
  rcases both_find c4 r1 hM.1 hA.1 x with ⟨k, hk, rfl, hw, rw1, rw2, e, e'⟩ | ⟨e, e'⟩
  · have h8 := hA.1.2.2.1
    have e3 : f_X7_in y (nI 0) (nI 3) MM = f_X7_in y (nI 0) (nI 4 - nI 1) MM := by rw [nsub (show 1 ≤ 4 by omega)]
    rw [e', Option.bind_some]
    dsimp only
    rw [if_neg (show ¬ nI 1 = nI 0 by decide), e3]
    rw [e, Option.bind_some]
    dsimp only
    rw [if_neg (ref_ne c4 (by omega))]
    rcases in_ok y (n := 4) (by omega) MM with ⟨p, hp, rfl, ep⟩ | ⟨hno, ep⟩
    · rw [ep, Option.bind_some]
      dsimp only
      rw [bI_t, if_neg (show ¬ nI 1 = nI 0 by decide), if_neg (neg_n (show p < 2147483648 by omega)), if_neg (fun q => by have := (nlt (by omega) (by omega)).mp q; omega), c1, mlS_ok c4, Option.bind_some, mrd_n (by omega) (by omega), Option.bind_some]
      simp only [r1.1, hM.1.2.1, bI_0', bI_1]
      cases a.1.1 with
      | true => rw [if_neg (by decide), if_pos rfl]; exact S _
      | false =>
        obtain ⟨MC', tb', e1, f1, p1, o1⟩ := findOutcomes_ok (by omega) hw r0 rw1
        obtain ⟨MM', e2, o2⟩ := mb_45 hw hp (show k < 8 by omega) fuelN 64 MM (by omega) (by unfold fuelN; omega) rw2
        have ec := cb_51 hw hp p1 fuelN 0 0 (by omega) (by unfold fuelN; omega) (by omega)
        rw [Nat.zero_add, Nat.sub_zero] at ec
        rw [show 64 - 64 = 0 from rfl, nsub (show 1 ≤ 64 by omega)] at e2
        rw [if_pos rfl, if_neg (by decide), maW_ok c4 (by omega), Option.bind_some, e1, Option.bind_some]
        dsimp only
        rw [ec]
        have e2' : f_X7_bears_45 fuelN (nI k) (nI p) (nI 0) (-5) (nI 63) MM = _ := e2
        rw [e2']
        exact same_of hA ⟨cn, cs, ch, tb', hC.keep hA (fun c hc => o1 c (by omega)) (by rw [o1 22 (by omega)]) f1⟩ (hM.fw o2) _
    · rw [ep, Option.bind_some]
      dsimp only
      rw [bI_f, if_pos rfl]
      rcases neg_lt (x := y) (n := 4) (by omega) with q | ⟨q1, q2⟩ | ⟨j, hj, rfl⟩
      · rw [if_pos (show y < nI 0 from q)]; exact S _
      · rw [if_neg q1]
        have : nI 3 < y := by
          have h1 : ¬ y.toInt < 4 := fun p => q2 (lt_toInt.mpr p)
          exact lt_toInt.mpr (by rw [nI_toInt (by omega)]; omega)
        rw [if_pos this]
        exact S _
      · exact absurd rfl (hno j hj)
  · rw [e, Option.bind_some, e', Option.bind_some]
    dsimp only
    rw [if_pos rfl, if_pos rfl]
    exact S _
