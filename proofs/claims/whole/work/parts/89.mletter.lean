/-! the model: letters -/
theorem txt_ne (t : T) : 0 < (txt t).length := by
  obtain ⟨r, h⟩ := txt_fl t
  rw [h]
  simp
theorem letter_30 {M : Mem} {tb : List T} (h : MT M tb) {at' : Nat} (hat : at' < 16 + tb.length) (hk18 : 18 ≤ kind (dn tb at')) (hsz : size (dn tb at') ≤ 120) {k5 : Int32 → Int32 → Mem → Option Rv}
    (IH : ∀ u left c, u < at' → size (dn tb u) ≤ 120 → (txt (dn tb u))[left]? = some c → left < 1000000 → k5 (nI u) (nI left) M = some (nI c, M)) :
    ∀ (n j left c : Nat), j < nkid (dn tb at') → nkid (dn tb at') - j < n → left < 1000000 → (∀ hj : j < (kids (dn tb at')).length, (txt (kids (dn tb at'))[j] ++ rest (sepc (kind (dn tb at'))) (((kids (dn tb at')).drop (j + 1)).map txt))[left]? = some c) →
    f_X7_letterOf_30 k5 n (nI at') (nI left) (nI j) M = some (nI c, M) := by
  have hl := h.2.1
  have hA := MT_AR h hat
  have nk := MT_nk h hat
  have hfl : fl (dn tb at') = 40 := by rw [fl_high (by omega), if_neg (show ¬ kind (dn tb at') = 16 by omega), if_neg (show ¬ kind (dn tb at') = 17 by omega)]
  intro n
  induction n with
  | zero => intro j left c _ h; omega
  | succ n ih =>
    intro j left c h1 h2 h3 h4
    have hjk : j < (kids (dn tb at')).length := h1
    have h4' := h4 hjk
    obtain ⟨u, u1, u2, u3⟩ := child_ok h hat h1
    have hul : u < 16 + tb.length := by omega
    have hw := (h.2.2.2.2.2.1 u hul).2.2.1
    have hwl := txt_len _ (MT_AR h hul)
    have husz : size (dn tb u) < size (dn tb at') := size_kid (by rw [u3]; exact List.getElem_mem _)
    have hwle := wid_le _ (MT_AR h hul)
    rw [← u3] at h4'
    rw [f_X7_letterOf_30]
    unfold f_X7_letterOf_82 f_X7_letterOf_117
    simp (disch := omega) only [begins_ok h hat, hfl, Option.bind_some, if_true, u2, mrd_n, hw, nI_add, nlt, neq]
    have hrest : ((kids (dn tb at')).drop (j + 1) = [] ∧ j + 1 = nkid (dn tb at')) ∨ ∃ hj2 : j + 1 < (kids (dn tb at')).length, (kids (dn tb at')).drop (j + 1) = (kids (dn tb at'))[j + 1] :: (kids (dn tb at')).drop (j + 2) := by
      rcases Nat.lt_or_ge (j + 1) (kids (dn tb at')).length with q | q
      · exact Or.inr ⟨q, List.drop_eq_getElem_cons q⟩
      · refine Or.inl ⟨List.drop_of_length_le q, ?_⟩
        show j + 1 = (kids (dn tb at')).length
        omega
    by_cases c1 : wid (dn tb u) < left
    · rw [if_pos c1]
      rw [List.getElem?_append_right (by omega), hwl] at h4'
      rcases hrest with ⟨e1, e2⟩ | ⟨hj2, e1⟩
      · rw [e1] at h4'
        rw [List.getElem?_eq_none (by simp [rest]; omega)] at h4'
        cases h4'
      · rw [e1, List.map_cons, rest] at h4'
        rw [nsub (by omega)]
        refine ih (j + 1) (left - (wid (dn tb u) + 1)) c hj2 (by omega) (by omega) (fun _ => ?_)
        obtain ⟨m, hm⟩ : ∃ m, left - wid (dn tb u) = m + 1 := ⟨left - wid (dn tb u) - 1, by omega⟩
        rw [hm, List.getElem?_cons_succ] at h4'
        rw [show left - (wid (dn tb u) + 1) = m by omega]
        exact h4'
    · rw [if_neg c1]
      by_cases c2 : left = wid (dn tb u)
      · rw [if_pos c2, mbehind_ok h hat hk18 h1 (by omega), Option.bind_some]
        rw [List.getElem?_append_right (by omega), hwl, c2, Nat.sub_self] at h4'
        have : bhc (dn tb at') j = c := by
          unfold bhc
          rcases hrest with ⟨e1, e2⟩ | ⟨hj2, e1⟩
          · rw [e1] at h4'
            rw [if_pos e2]
            simpa [rest] using h4'
          · rw [e1, List.map_cons, rest, List.getElem?_cons_zero] at h4'
            have hj3 : j + 1 < nkid (dn tb at') := hj2
            rw [if_neg (by omega)]
            simpa using h4'
        rw [this]
      · rw [if_neg c2]
        rw [List.getElem?_append_left (by omega)] at h4'
        exact IH u left c u1 (by omega) h4' h3
theorem letter_5 {M : Mem} {tb : List T} (h : MT M tb) : ∀ (n at' left c : Nat), at' < n → at' < 16 + tb.length → size (dn tb at') ≤ 120 → (txt (dn tb at'))[left]? = some c → left < 1000000 → f_X7_letterOf_5 n (nI at') (nI left) M = some (nI c, M) := by
  have hl := h.2.1
  intro n
  induction n with
  | zero => intro at' left c h1; omega
  | succ n ih =>
    intro at' left c h1 hat hsz hc hlt
    have hA := MT_AR h hat
    have hAl := AR_le hA
    rw [f_X7_letterOf_5]
    by_cases h0 : 0 < left
    · rw [if_pos ((nlt (by omega) (by omega)).mpr h0)]
      obtain ⟨m, rfl⟩ : ∃ m, left = m + 1 := ⟨left - 1, by omega⟩
      by_cases h16 : at' < 16
      · rw [if_pos ((nlt (by omega) (by omega)).mpr h16), nI_add]
        rw [dn_lf h16] at hc
        have htx : txt (lf at') = if at' < 10 then [lfc at'] else [45, lfc at'] := by
          unfold lf
          rw [txt_nd]
          by_cases q : at' < 10
          · rw [if_pos q, if_pos q]
          · rw [if_neg q, if_neg q, if_pos h16]
        rw [htx] at hc
        by_cases q : at' < 10
        · rw [if_pos q] at hc
          simp at hc
        · rw [if_neg q, List.getElem?_cons_succ] at hc
          cases m with
          | zero =>
            rw [List.getElem?_cons_zero] at hc
            cases hc
            rw [lfc_big at' (by omega) h16, nsub (by omega)]
            congr 3
            omega
          | succ m => simp at hc
      · rw [if_neg (fun q => h16 ((nlt (by omega) (by omega)).mp q)), nsub (by omega), Nat.add_sub_cancel]
        have hk16 := (dn_kind h.1 hat).2 (by omega)
        rcases AR_kind hA with q | ⟨k1, x, ex⟩ | q
        · omega
        · have hfl : ¬ fl (dn tb at') = 40 := by
            rw [fl_high (by omega)]
            rcases k1 with k1 | k1
            · rw [if_pos k1]; omega
            · rw [if_neg (show ¬ kind (dn tb at') = 16 by omega), if_pos k1]; omega
          have hfl2 := fl_lt (dn tb at')
          obtain ⟨u, u1, u2, u3⟩ := child_ok h hat (j := 0) (by show 0 < (kids _).length; rw [ex]; simp)
          simp only [ex, List.getElem_cons_zero] at u3
          have husz : size (dn tb u) < size (dn tb at') := size_kid (by rw [u3, ex]; exact List.mem_singleton_self _)
          unfold fuelN
          rw [f_X7_letterOf_30]
          unfold f_X7_letterOf_82 f_X7_letterOf_117
          simp (disch := omega) only [begins_ok h hat, Option.bind_some, neq, hfl, if_false, u2]
          rw [txt_un k1 ex, List.getElem?_cons_succ, ← u3] at hc
          exact ih u m c (by omega) (by omega) (by omega) hc (by omega)
        · have hk18 : 18 ≤ kind (dn tb at') := by rcases q with q | q <;> omega
          have h2 := AR_two hA hk18
          have nk := MT_nk h hat
          refine letter_30 h hat hk18 hsz (fun u left c hu hs hc hl => ih u left c (by omega) (by omega) hs hc hl) fuelN 0 m c (by omega) (by unfold fuelN; omega) (by omega) (fun hj => ?_)
          have hd := List.drop_eq_getElem_cons hj
          rw [List.drop_zero] at hd
          rw [txt_br hk18 hd, List.getElem?_cons_succ] at hc
          exact hc
    · rw [if_neg (fun q => h0 ((nlt (by omega) (by omega)).mp q)), begins_ok h hat, Option.bind_some]
      have : left = 0 := by omega
      subst this
      obtain ⟨r, hr⟩ := txt_fl (dn tb at')
      rw [hr, List.getElem?_cons_zero] at hc
      cases hc
      rfl
theorem letterOf_ok {M : Mem} {tb : List T} (h : MT M tb) {id p : Nat} (hid : id < 16 + tb.length) (hsz : size (dn tb id) ≤ 120) (hp : p < (txt (dn tb id)).length) : f_X7_letterOf (nI id) (nI p) M = some (nI (txt (dn tb id))[p], M) := by
  have hl := h.2.1
  have h1 := txt_len _ (MT_AR h hid)
  have h2 := wid_le _ (MT_AR h hid)
  exact letter_5 h fuelN id p _ (by unfold fuelN; omega) hid hsz (List.getElem?_eq_getElem hp) (by omega)
