/-! the model's table: the order of texts -/
theorem begins_leaf : ∀ i, i < 10 → lfc i = if i < 2 then 48 + i else if i = 2 then 62 else if i = 3 then 46 else 97 + i - 4 := by decide
theorem fl_low {id : Nat} (e : id < 16) (tb : List T) : fl (dn tb id) = if id < 10 then lfc id else 45 := by
  rw [dn_lf e]
  unfold fl
  rw [kind_lf]
  by_cases q : id < 10
  · rw [if_pos q, if_pos q]
  · rw [if_neg q, if_neg q, if_pos e]
theorem fl_high {t : T} (hk : 16 ≤ kind t) : fl t = if kind t = 16 then 88 else if kind t = 17 then 78 else 40 := by
  unfold fl
  rw [if_neg (by omega), if_neg (by omega)]
theorem begins_ok {M : Mem} {tb : List T} (h : MT M tb) {id : Nat} (hid : id < 16 + tb.length) : f_X7_begins (nI id) M = some (nI (fl (dn tb id)), M) := by
  have hl := h.2.1
  unfold f_X7_begins f_X7_begins_38 f_X7_begins_88
  rcases Nat.lt_or_ge id 16 with e | e
  · have hfl := fl_low e tb
    simp (disch := omega) only [nlt, e, if_true, neq, nI_add]
    by_cases h10 : id < 10
    · rw [if_pos h10] at hfl
      rw [hfl, begins_leaf id h10]
      by_cases h2 : id < 2
      · rw [if_pos h2, if_pos h2]
      · rw [if_neg h2, if_neg h2]
        by_cases h3 : id = 2
        · rw [if_pos h3, if_pos h3]
        · rw [if_neg h3, if_neg h3]
          by_cases h4 : id = 3
          · rw [if_pos h4, if_pos h4]
          · rw [if_neg h4, if_neg h4, if_pos h10, nsub (by omega)]
    · rw [if_neg h10] at hfl
      rw [hfl, if_neg (show ¬ id < 2 by omega), if_neg (show ¬ id = 2 by omega), if_neg (show ¬ id = 3 by omega), if_neg h10]
  · have hk := (dn_kind h.1 hid).2 e
    have hk2 := AR_le (MT_AR h hid)
    have a := (h.2.2.2.2.2.1 id hid).1
    simp (disch := omega) only [nlt, show ¬ id < 16 by omega, if_false, mrd_n, Option.bind_some, a, neq]
    rw [fl_high hk]
    by_cases h1 : kind (dn tb id) = 16
    · rw [if_pos (show kind (dn tb id) - 15 = 1 by omega), if_pos h1]
    · rw [if_neg (show ¬ kind (dn tb id) - 15 = 1 by omega), if_neg h1]
      by_cases h2 : kind (dn tb id) = 17
      · rw [if_pos (show kind (dn tb id) - 15 = 2 by omega), if_pos h2]
      · rw [if_neg (show ¬ kind (dn tb id) - 15 = 2 by omega), if_neg h2]
/-- the character behind the j-th form -/
def bhc (t : T) (j : Nat) : Nat := if j + 1 = nkid t then 41 else sepc (kind t)
theorem bhc_lt (t : T) (j : Nat) : bhc t j < 128 := by
  have := sepc_lt (kind t)
  unfold bhc
  split <;> omega
theorem mbehind_ok {M : Mem} {tb : List T} (h : MT M tb) {id j : Nat} (hid : id < 16 + tb.length) (hk18 : 18 ≤ kind (dn tb id)) (hj : j < nkid (dn tb id)) (hn : nkid (dn tb id) < 100000) : f_X7_behind (nI id) (nI j) M = some (nI (bhc (dn tb id) j), M) := by
  have hl := h.2.1
  have hk2 := AR_le (MT_AR h hid)
  have a := (h.2.2.2.2.2.1 id hid).1
  unfold f_X7_behind f_X7_behind_61
  have hn1 : 1 ≤ nkid (dn tb id) := by omega
  rw [childMany_ok h hid, Option.bind_some]
  generalize hN : nkid (dn tb id) = N at *
  simp (disch := omega) only [nsub, neq, mrd_n, Option.bind_some, a]
  unfold bhc
  rw [hN]
  by_cases q : j = N - 1
  · rw [if_pos q, if_pos (by omega)]
  · rw [if_neg q, if_neg (show ¬ j + 1 = N by omega)]
    unfold sepc
    by_cases h1 : kind (dn tb id) = 18
    · rw [if_pos (show kind (dn tb id) - 15 = 3 by omega), if_pos h1]
    · rw [if_neg (show ¬ kind (dn tb id) - 15 = 3 by omega), if_neg h1]
      by_cases h2 : kind (dn tb id) = 19
      · rw [if_pos (show kind (dn tb id) - 15 = 4 by omega), if_pos h2]
      · rw [if_neg (show ¬ kind (dn tb id) - 15 = 4 by omega), if_neg h2]
        by_cases h3 : kind (dn tb id) = 20
        · rw [if_pos (show kind (dn tb id) - 15 = 5 by omega), if_pos h3]
        · rw [if_neg (show ¬ kind (dn tb id) - 15 = 5 by omega), if_neg h3]
theorem MT_nk {M : Mem} {tb : List T} (h : MT M tb) {id : Nat} (hid : id < 16 + tb.length) : nkid (dn tb id) ≤ 80000 := by
  rcases Nat.lt_or_ge id 16 with e | e
  · rw [nk_lf e]; omega
  · obtain ⟨n1, n2⟩ := MT_node h e hid
    by_cases k20 : kind (dn tb id) < 20
    · obtain ⟨x, y, -, -, -, -, q, -⟩ := n1 k20
      rw [nk_P q]
      split <;> omega
    · obtain ⟨s, hs, -⟩ := n2 (by omega)
      omega
theorem df_at {a b x y : T} {p la lb : List T} {c d : Nat} (hka : 18 ≤ kind a) (hkb : kind b = kind a) (ha : kids a = p ++ x :: la) (hb : kids b = p ++ y :: lb) (h : Df (txt x) (txt y) c d) : Df (txt a) (txt b) c d := by
  cases p with
  | nil => exact df_desc0 hka (by omega) ha hb h
  | cons z p => exact df_desc hka hkb ha hb h
theorem AR_two {t : T} (h : AR t = true) (hk : 18 ≤ kind t) : 2 ≤ nkid t := by
  show 2 ≤ (kids t).length
  rcases AR_kind h with q | q | ⟨-, x, y, e⟩ | ⟨-, x, y, l, e⟩
  · omega
  · omega
  · rw [e]; simp
  · rw [e]; simp
theorem cons_of_pos {l : List T} (h : 0 < l.length) : ∃ z p, l = z :: p := by
  cases l with
  | nil => exact absurd h (by simp)
  | cons z p => exact ⟨z, p, rfl⟩
theorem ah_28 {M : Mem} {tb : List T} (h : MT M tb) {n a b : Nat} (ha : a < 16 + tb.length) (hb : b < 16 + tb.length) (hka : 18 ≤ kind (dn tb a)) (hkb : 18 ≤ kind (dn tb b)) (hne : dn tb a ≠ dn tb b)
    (IH : ∀ u v, u < a → v < b → u ≠ v → f_X7_isAhead_5 n (nI u) (nI v) M = some (bI (ah (dn tb u) (dn tb v)), M)) :
    ∀ (m j : Nat), nkid (dn tb a) - j < m → j < nkid (dn tb a) → j < nkid (dn tb b) → (∀ i (h1 : i < nkid (dn tb a)) (h2 : i < nkid (dn tb b)), i < j → (kids (dn tb a))[i] = (kids (dn tb b))[i]) → (j = 0 ∨ kind (dn tb a) = kind (dn tb b)) → f_X7_isAhead_28 (f_X7_isAhead_5 n) m (nI a) (nI b) (nI j) M = some (bI (ah (dn tb a) (dn tb b)), M) := by
  intro m
  induction m with
  | zero => intro j h1; omega
  | succ m ih =>
    intro j h1 h2 h3 h4 h5
    have hl := h.2.1
    have na := MT_nk h ha
    have nb := MT_nk h hb
    have hAa := MT_AR h ha
    have hAb := MT_AR h hb
    obtain ⟨u, u1, u2, u3⟩ := child_ok h ha h2
    obtain ⟨v, v1, v2, v3⟩ := child_ok h hb h3
    have fa : fl (dn tb a) = 40 := by unfold fl; rw [if_neg (by omega), if_neg (by omega), if_neg (by omega), if_neg (by omega)]
    have two_a := AR_two hAa hka
    have two_b := AR_two hAb hkb
    have ba := bhc_lt (dn tb a) j
    have bb := bhc_lt (dn tb b) j
    rw [f_X7_isAhead_28]
    unfold f_X7_isAhead_80 f_X7_isAhead_121
    simp (disch := omega) only [u2, v2, Option.bind_some, neq, begins_ok h ha, fa, if_true, mbehind_ok h ha hka h2 (by omega), mbehind_ok h hb hkb h3 (by omega), nlt, mrz_0, mrz_1, nI_add]
    -- the forms up to j
    have pre : (kids (dn tb a)).take j = (kids (dn tb b)).take j := by
      apply List.ext_getElem
      · rw [List.length_take, List.length_take]
        have : j < (kids (dn tb a)).length := h2
        have : j < (kids (dn tb b)).length := h3
        omega
      · intro i p1 p2
        rw [List.getElem_take, List.getElem_take]
        rw [List.length_take] at p1 p2
        exact h4 i (by show i < (kids _).length; omega) (by show i < (kids _).length; omega) (by omega)
    have sa := take_split (kids (dn tb a)) j h2
    have sb := take_split (kids (dn tb b)) j h3
    by_cases huv : u = v
    · simp only [if_pos huv]
      have exy : (kids (dn tb a))[j] = (kids (dn tb b))[j] := by rw [← u3, ← v3, huv]
      by_cases hbh : bhc (dn tb a) j = bhc (dn tb b) j
      · rw [if_pos hbh]
        -- both go on
        have nlast : ¬ (j + 1 = nkid (dn tb a) ∧ j + 1 = nkid (dn tb b)) := by
          rintro ⟨q1, q2⟩
          have hkk : kind (dn tb a) = kind (dn tb b) := by
            rcases h5 with h5 | h5
            · omega
            · exact h5
          refine hne (T_ext hkk ?_)
          apply List.ext_getElem
          · show nkid (dn tb a) = nkid (dn tb b); omega
          · intro i p1 p2
            by_cases q : i < j
            · exact h4 i p1 p2 q
            · have : i = j := by
                have : i < nkid (dn tb a) := p1
                omega
              subst this
              exact exy
        have s1 := sepc_41 (kind (dn tb a))
        have s2 := sepc_41 (kind (dn tb b))
        unfold bhc at hbh
        by_cases q1 : j + 1 = nkid (dn tb a)
        · by_cases q2 : j + 1 = nkid (dn tb b)
          · exact absurd ⟨q1, q2⟩ nlast
          · rw [if_pos q1, if_neg q2] at hbh
            exact absurd hbh.symm s2
        · by_cases q2 : j + 1 = nkid (dn tb b)
          · rw [if_neg q1, if_pos q2] at hbh
            exact absurd hbh s1
          · rw [if_neg q1, if_neg q2] at hbh
            have hkk := sepc_inj hka (AR_le hAa) hkb (AR_le hAb) hbh
            refine ih (j + 1) (by omega) (by omega) (by omega) (fun i p1 p2 q => ?_) (Or.inr hkk)
            by_cases qq : i < j
            · exact h4 i p1 p2 qq
            · have : i = j := by omega
              subst this
              exact exy
      · rw [if_neg hbh]
        have hdf : Df (txt (dn tb a)) (txt (dn tb b)) (bhc (dn tb a) j) (bhc (dn tb b) j) := by
          unfold bhc at hbh ⊢
          by_cases hkk : kind (dn tb a) = kind (dn tb b)
          · by_cases q1 : j + 1 = nkid (dn tb a)
            · by_cases q2 : j + 1 = nkid (dn tb b)
              · rw [if_pos q1, if_pos q2] at hbh; exact absurd rfl hbh
              · rw [if_pos q1, if_neg q2, ← hkk]
                have ea : kids (dn tb a) = (kids (dn tb a)).take (j + 1) := by rw [List.take_of_length_le]; show nkid (dn tb a) ≤ _; omega
                have eb := take_split (kids (dn tb b)) (j + 1) (by show j + 1 < nkid (dn tb b); omega)
                have ep : (kids (dn tb b)).take (j + 1) = (kids (dn tb a)).take (j + 1) := by
                  rw [List.take_succ_eq_append_getElem h3, List.take_succ_eq_append_getElem h2, pre, exy]
                rw [ep, ← ea] at eb
                obtain ⟨z, p, hz⟩ := cons_of_pos (l := kids (dn tb a)) (by show 0 < nkid (dn tb a); omega)
                rw [hz] at eb
                exact df_more hka hkk.symm hz eb
            · by_cases q2 : j + 1 = nkid (dn tb b)
              · rw [if_neg q1, if_pos q2, hkk]
                have eb : kids (dn tb b) = (kids (dn tb b)).take (j + 1) := by rw [List.take_of_length_le]; show nkid (dn tb b) ≤ _; omega
                have ea := take_split (kids (dn tb a)) (j + 1) (by show j + 1 < nkid (dn tb a); omega)
                have ep : (kids (dn tb a)).take (j + 1) = (kids (dn tb b)).take (j + 1) := by
                  rw [List.take_succ_eq_append_getElem h3, List.take_succ_eq_append_getElem h2, pre, exy]
                rw [ep, ← eb] at ea
                obtain ⟨z, p, hz⟩ := cons_of_pos (l := kids (dn tb b)) (by show 0 < nkid (dn tb b); omega)
                rw [hz] at ea
                exact (df_more hkb hkk hz ea).sym
              · rw [if_neg q1, if_neg q2, hkk] at hbh; exact absurd rfl hbh
          · have hj0 : j = 0 := by rcases h5 with h5 | h5; exact h5; exact absurd h5 hkk
            subst hj0
            rw [if_neg (by omega), if_neg (by omega)]
            rw [List.take_zero, List.nil_append] at sa sb
            rw [exy] at sa
            exact df_sep hAa hAb hka hkb hkk sa sb
        have hah : ah (dn tb a) (dn tb b) = decide (bhc (dn tb a) j < bhc (dn tb b) j) := lxl_df hdf
        rw [hah]
        by_cases q : bhc (dn tb a) j < bhc (dn tb b) j
        · rw [if_pos q, decide_eq_true q]
        · rw [if_neg q, decide_eq_false q]
    · simp only [if_neg huv]
      rw [IH u v u1 v1 huv]
      have hxy : dn tb u ≠ dn tb v := fun e => huv (dn_inj h.1 (by omega) (by omega) e)
      obtain ⟨c, d, hd⟩ := df_ex (dn tb u) (dn tb v) (MT_AR h (by omega)) (MT_AR h (by omega)) hxy
      have hd2 : Df (txt (dn tb a)) (txt (dn tb b)) c d := by
        rw [u3, v3] at hd
        rcases h5 with h5 | h5
        · subst h5
          rw [List.take_zero, List.nil_append] at sa sb
          exact df_desc0 hka hkb sa sb hd
        · rw [pre] at sa
          exact df_at hka h5.symm sa sb hd
      have e1 : ah (dn tb u) (dn tb v) = decide (c < d) := lxl_df hd
      have e2 : ah (dn tb a) (dn tb b) = decide (c < d) := lxl_df hd2
      rw [e1, e2]
theorem isAhead_5 {M : Mem} {tb : List T} (h : MT M tb) : ∀ (n a b : Nat), a < n → a ≠ b → a < 16 + tb.length → b < 16 + tb.length → f_X7_isAhead_5 n (nI a) (nI b) M = some (bI (ah (dn tb a) (dn tb b)), M) := by
  intro n
  induction n with
  | zero => intro a b h1; omega
  | succ n ih =>
    intro a b h1 hab ha hb
    have hl := h.2.1
    have hAa := MT_AR h ha
    have hAb := MT_AR h hb
    have hne : dn tb a ≠ dn tb b := fun e => hab (dn_inj h.1 ha hb e)
    have la := fl_lt (dn tb a)
    have lb := fl_lt (dn tb b)
    have ka := dn_kind h.1 ha
    have kb := dn_kind h.1 hb
    rw [f_X7_isAhead_5]
    unfold f_X7_isAhead_147 f_X7_isAhead_194
    simp (disch := omega) only [begins_ok h ha, begins_ok h hb, Option.bind_some, neq, nlt, mrz_0, mrz_1]
    by_cases hf : fl (dn tb a) = fl (dn tb b)
    · simp only [hf, if_true]
      rcases fl_eq hAa hAb hf hne with ⟨p1, p2, p3, p4⟩ | ⟨p1, p2⟩ | ⟨p1, p2⟩ | ⟨p1, p2⟩
      · have a16 : a < 16 := by
          rcases Nat.lt_or_ge a 16 with q | q
          · exact q
          · have := ka.2 q; omega
        have b16 : b < 16 := by
          rcases Nat.lt_or_ge b 16 with q | q
          · exact q
          · have := kb.2 q; omega
        have e1 := ka.1 a16
        have e2 := kb.1 b16
        have hah : ah (dn tb a) (dn tb b) = decide (87 + kind (dn tb a) < 87 + kind (dn tb b)) := lxl_df (df_leaf hAa hAb hne p1 p2 p3 p4)
        rw [hah, e1, e2, if_pos a16]
        by_cases q : a < b
        · rw [if_pos q, decide_eq_true (by omega)]
        · rw [if_neg q, decide_eq_false (by omega)]
      all_goals
        have a16 : ¬ a < 16 := fun q => by have := ka.1 q; omega
        rw [if_neg a16]
      · have un : ∀ {t : T}, AR t = true → kind t = 16 → ∃ x, kids t = [x] := fun ht hk => by
          rcases AR_kind ht with q | ⟨-, x, e⟩ | q | q
          · omega
          · exact ⟨x, e⟩
          · omega
          · omega
        obtain ⟨x, ex⟩ := un hAa p1
        obtain ⟨y, ey⟩ := un hAb p2
        have fa : fl (dn tb a) = 88 := by unfold fl; rw [if_neg (by omega), if_neg (by omega), if_pos p1]
        obtain ⟨u, u1, u2, u3⟩ := child_ok h ha (j := 0) (by show 0 < (kids _).length; rw [ex]; simp)
        obtain ⟨v, v1, v2, v3⟩ := child_ok h hb (j := 0) (by show 0 < (kids _).length; rw [ey]; simp)
        simp only [ex, List.getElem_cons_zero] at u3
        simp only [ey, List.getElem_cons_zero] at v3
        have huv : u ≠ v := fun e => hne (T_ext (by omega) (by rw [ex, ey, ← u3, ← v3, e]))
        unfold fuelN
        rw [f_X7_isAhead_28]
        unfold f_X7_isAhead_80
        simp (disch := omega) only [u2, v2, Option.bind_some, neq, huv, if_false]
        rw [ih u v (by omega) huv (by omega) (by omega)]
        obtain ⟨c, d, hd⟩ := df_ex (dn tb u) (dn tb v) (MT_AR h (by omega)) (MT_AR h (by omega)) (fun e => huv (dn_inj h.1 (by omega) (by omega) e))
        have hd2 : Df (txt (dn tb a)) (txt (dn tb b)) c d := by
          rw [txt_un (Or.inl p1) ex, txt_un (Or.inl p2) ey, if_pos p1, if_pos p2, ← u3, ← v3]
          exact hd.cons _
        have e1 : ah (dn tb u) (dn tb v) = decide (c < d) := lxl_df hd
        have e2 : ah (dn tb a) (dn tb b) = decide (c < d) := lxl_df hd2
        rw [e1, e2]
      · have un : ∀ {t : T}, AR t = true → kind t = 17 → ∃ x, kids t = [x] := fun ht hk => by
          rcases AR_kind ht with q | ⟨-, x, e⟩ | q | q
          · omega
          · exact ⟨x, e⟩
          · omega
          · omega
        obtain ⟨x, ex⟩ := un hAa p1
        obtain ⟨y, ey⟩ := un hAb p2
        obtain ⟨u, u1, u2, u3⟩ := child_ok h ha (j := 0) (by show 0 < (kids _).length; rw [ex]; simp)
        obtain ⟨v, v1, v2, v3⟩ := child_ok h hb (j := 0) (by show 0 < (kids _).length; rw [ey]; simp)
        simp only [ex, List.getElem_cons_zero] at u3
        simp only [ey, List.getElem_cons_zero] at v3
        have huv : u ≠ v := fun e => hne (T_ext (by omega) (by rw [ex, ey, ← u3, ← v3, e]))
        unfold fuelN
        rw [f_X7_isAhead_28]
        unfold f_X7_isAhead_80
        simp (disch := omega) only [u2, v2, Option.bind_some, neq, huv, if_false]
        rw [ih u v (by omega) huv (by omega) (by omega)]
        obtain ⟨c, d, hd⟩ := df_ex (dn tb u) (dn tb v) (MT_AR h (by omega)) (MT_AR h (by omega)) (fun e => huv (dn_inj h.1 (by omega) (by omega) e))
        have hd2 : Df (txt (dn tb a)) (txt (dn tb b)) c d := by
          rw [txt_un (Or.inr p1) ex, txt_un (Or.inr p2) ey, if_neg (by omega), if_neg (by omega), ← u3, ← v3]
          exact hd.cons _
        have e1 : ah (dn tb u) (dn tb v) = decide (c < d) := lxl_df hd
        have e2 : ah (dn tb a) (dn tb b) = decide (c < d) := lxl_df hd2
        rw [e1, e2]
      · have two_a := AR_two hAa p1
        have two_b := AR_two hAb p2
        have na := MT_nk h ha
        exact ah_28 h ha hb p1 p2 hne (fun u v hu hv huv => ih u v (by omega) huv (by omega) (by omega)) fuelN 0 (by unfold fuelN; omega) (by omega) (by omega) (fun i _ _ q => by omega) (Or.inl rfl)
    · simp only [hf, if_false]
      have hah : ah (dn tb a) (dn tb b) = decide (fl (dn tb a) < fl (dn tb b)) := lxl_df (df_fl hf)
      rw [hah]
      by_cases q : fl (dn tb a) < fl (dn tb b)
      · rw [if_pos q, decide_eq_true q]
      · rw [if_neg q, decide_eq_false q]
theorem isAhead_ok {M : Mem} {tb : List T} (h : MT M tb) {a b : Nat} (hab : a ≠ b) (ha : a < 16 + tb.length) (hb : b < 16 + tb.length) : f_X7_isAhead (nI a) (nI b) M = some (bI (ah (dn tb a) (dn tb b)), M) := by
  have hl := h.2.1
  exact isAhead_5 h fuelN a b (by unfold fuelN; omega) hab ha hb
