/-! end() -/
def withP (w : Wsh) (l : List T) : Wsh := (w.1, w.2.1, w.2.2.1, w.2.2.2.1, w.2.2.2.2.1, l)
theorem wP_withP (w : Wsh) (l : List T) : wP (withP w l) = l := rfl
/-- a list, mapped as far as j -/
def pW {α : Type} (f : α → α) (l : List α) (j : Nat) : List α := (l.take j).map f ++ l.drop j
theorem pW_len {α : Type} (f : α → α) (l : List α) (j : Nat) : (pW f l j).length = l.length := by
  unfold pW
  rw [List.length_append, List.length_map, List.length_take, List.length_drop]
  omega
theorem pW_zero {α : Type} (f : α → α) (l : List α) : pW f l 0 = l := by simp [pW]
theorem pW_all {α : Type} (f : α → α) (l : List α) : pW f l l.length = l.map f := by simp [pW]
theorem pW_get {α : Type} (f : α → α) (l : List α) (j : Nat) (h : j < l.length) : (pW f l j)[j]'(by rw [pW_len]; exact h) = l[j] := by
  unfold pW
  rw [List.getElem_append_right (by rw [List.length_map, List.length_take]; omega)]
  rw [List.getElem_drop]
  congr 1
  rw [List.length_map, List.length_take]
  omega
theorem pW_set {α : Type} (f : α → α) (l : List α) (j : Nat) (h : j < l.length) : (pW f l j).set j (f l[j]) = pW f l (j + 1) := by
  unfold pW
  rw [List.drop_eq_getElem_cons h, List.set_append_right _ _ (by rw [List.length_map, List.length_take]; omega)]
  have : j - ((l.take j).map f).length = 0 := by rw [List.length_map, List.length_take]; omega
  rw [this, List.set_cons_zero, List.take_succ_eq_append_getElem h, List.map_append, List.append_assoc]
  rfl
theorem pW_mem {α : Type} {f : α → α} {l : List α} {j : Nat} {x : α} (h : x ∈ pW f l j) : x ∈ l ∨ ∃ y ∈ l, x = f y := by
  unfold pW at h
  rcases List.mem_append.mp h with h | h
  · obtain ⟨y, hy, rfl⟩ := List.mem_map.mp h
    exact Or.inr ⟨y, List.mem_of_mem_take hy, rfl⟩
  · exact Or.inl (List.mem_of_mem_drop h)
theorem okP_pW {g : T → T} {l : List T} (hl : okP l) (hg : ∀ t ∈ l, AR (g t) = true ∧ size (g t) ≤ 120) (j : Nat) : okP (pW g l j) := by
  refine ⟨by rw [pW_len]; exact hl.1, by rw [pW_len]; exact hl.2.1, fun t ht => ?_⟩
  rcases pW_mem ht with h | ⟨y, hy, rfl⟩
  · exact hl.2.2 t h
  · exact hg y hy
theorem okP_map {g : T → T} {l : List T} (hl : okP l) (hg : ∀ t ∈ l, AR (g t) = true ∧ size (g t) ≤ 120) : okP (l.map g) := by
  rw [← pW_all]
  exact okP_pW hl hg _
/-- a part is written over, in the class -/
theorem savePart {M : Mem} {tb : List T} {id cw p : Nat} {t : T} {w : Wsh} (hx : 20 ≤ cw) (hw : okW w) (hF : FT M tb) (hR : RCw M cw w) (hid : id < 16 + tb.length) (hd : dn tb id = t) (hs : size t ≤ 120) (hp : p < (wP w).length) :
    ∃ M', f_X3_save (nI id) cw (nI p) M = some (nI 0, M') ∧ FT M' tb ∧ RCw M' cw (withP w ((wP w).set p t)) ∧ ∀ c, c ≠ 18 → c ≠ cw + 1 → c ≠ cw + 2 → M' c = M c := by
  have h8 := hw.2.2.2.1
  obtain ⟨M', e, f, q, o1, o2, o3⟩ := save_ok hx (show p < 8 by omega) hF hid hd hs
  obtain ⟨a0, a1, a2, a3, a4, a5, a6⟩ := hR
  have oc := o1 cw (by omega) (by omega) (by omega)
  refine ⟨M', e, f, ⟨by rw [oc]; exact a0, by rw [oc]; exact a1, by rw [oc, wP_withP, List.length_set]; exact a2, by rw [oc]; exact a3, by rw [oc]; exact a4, by rw [oc]; exact a5, fun j hj => ?_⟩, o1⟩
  have hj2 : j < ((wP w).set p t).length := hj
  suffices fin : CP M' cw j (((wP w).set p t)[j]'hj2) from fin
  rw [List.length_set] at hj2
  by_cases e2 : p = j
  · subst e2
    rw [List.getElem_set_self]
    exact q
  · rw [List.getElem_set_ne e2]
    have s1 := (hw.2.2.2.2 (wP w)[j] (List.getElem_mem hj2)).2
    have s2 := codes_len (wP w)[j]
    exact ⟨by rw [o2 j (fun e => e2 e.symm)]; exact (a6 j hj2).1, fun i hi => by rw [o3 _ (by omega)]; exact (a6 j hj2).2 i hi⟩
def enT (t : T) : T := lf (one (tae t))
theorem enT_ok (t : T) : AR (enT t) = true ∧ size (enT t) ≤ 120 := by
  have := one_le (tae t)
  unfold enT
  exact ⟨AR_lf (by omega), by rw [size_lf]; omega⟩
def FE (M M' : Mem) (cw : Nat) : Prop := ∀ c, c = 0 ∨ (16 ≤ c ∧ c ≠ 18 ∧ c ≠ cw + 1 ∧ c ≠ cw + 2) → M' c = M c
theorem endParts_2 {cw : Nat} {w : Wsh} (hx : 20 ≤ cw) (hw : okW w) : ∀ (n p : Nat) (M : Mem) (tb : List T), p ≤ (wP w).length → (wP w).length - p < n → FT M tb → RCw M cw (withP w (pW enT (wP w) p)) → ∃ (M' : Mem) (tb' : List T), f_X6_endParts_2 n cw (nI p) M = some (nI 0, M') ∧ FT M' tb' ∧ RCw M' cw (withP w ((wP w).map enT)) ∧ FE M M' cw := by
  have h8 := hw.2.2.2.1
  intro n
  induction n with
  | zero => intro p M tb _ h; omega
  | succ n ih =>
    intro p M tb h1 h2 hF hR
    have okp := okP_pW (g := enT) hw.2.2 (fun t _ => enT_ok t) p
    have okw : okW (withP w (pW enT (wP w) p)) := ⟨hw.1, hw.2.1, okp⟩
    have hpl := pW_len enT (wP w) p
    rw [f_X6_endParts_2, hR.2.2.1, wP_withP, hpl]
    unfold f_X6_endParts_38
    by_cases hp : p < (wP w).length
    · obtain ⟨t1, t2⟩ := hw.2.2.2.2 (wP w)[p] (List.getElem_mem hp)
      have hcp := hR.2.2.2.2.2.2 p (by rw [wP_withP, hpl]; exact hp)
      simp only [wP_withP, pW_get enT (wP w) p hp] at hcp
      obtain ⟨id, M1, tb1, e1, f1, s1, i1, d1, o1⟩ := loadAlone_ok hx (show p < 8 by omega) hF t1 t2 hcp
      have aa := (f1.2.2.2.2.2.1 id i1).2.2.2.2.1
      have hl1 := f1.2.1
      rw [if_pos ((nlt (by omega) (by omega)).mpr hp), e1, Option.bind_some]
      dsimp only
      rw [mrd_n (by omega) (by omega), Option.bind_some, aa, d1]
      have o1' : FQ M M1 := fun c hc => o1 c (by omega)
      have step : ∀ b : Bool, b = tae (wP w)[p] → ∃ (M' : Mem) (tb' : List T), ((f_X3_save (nI (one b)) cw (nI p) M1).bind fun q1 => f_X6_endParts_2 n cw (nI p + nI 1) q1.2) = some (nI 0, M') ∧ FT M' tb' ∧ RCw M' cw (withP w ((wP w).map enT)) ∧ FE M M' cw := by
        intro b hb
        have hb1 := one_le b
        obtain ⟨M2, e2, f2, r2, o2⟩ := savePart hx okw f1 (hR.q hx o1') (id := one b) (t := enT (wP w)[p]) (by omega) (by rw [dn_lf (by omega), hb]; rfl) (enT_ok _).2 (by rw [wP_withP, hpl]; exact hp)
        have e3 : withP (withP w (pW enT (wP w) p)) ((wP (withP w (pW enT (wP w) p))).set p (enT (wP w)[p])) = withP w (pW enT (wP w) (p + 1)) := by
          rw [wP_withP, pW_set enT (wP w) p hp]; rfl
        rw [e3] at r2
        rw [e2, Option.bind_some, nI_add]
        obtain ⟨M', tb', e4, f4, r4, o4⟩ := ih (p + 1) M2 tb1 (by omega) (by omega) f2 r2
        exact ⟨M', tb', e4, f4, r4, fun c hc => by rw [o4 c hc, o2 c (by omega) (by omega) (by omega), o1' c (by omega)]⟩
      cases ht : tae (wP w)[p] with
      | false => rw [bI_f, if_pos rfl]; exact step false ht.symm
      | true => rw [bI_t, if_neg (by decide)]; exact step true ht.symm
    · have : p = (wP w).length := by omega
      subst this
      rw [if_neg (fun q => hp ((nlt (by omega) (by omega)).mp q))]
      rw [pW_all] at hR
      exact ⟨M, tb, rfl, hF, hR, fun _ _ => rfl⟩
/-- what the end makes of a wish -/
def enP (w : Wsh) : List T := (wP w).map enT
def enB (w : Wsh) : Bool := w.1 && w.2.1 == 2
def enW (w : Wsh) : Wsh := if enB w = true then (w.1, wv (enP w), w.2.2.1, w.2.2.2.1, w.2.2.2.2.1, enP w) else w
theorem enP_ok {w : Wsh} (hw : okW w) : okP (enP w) := okP_map hw.2.2 (fun t _ => enT_ok t)
theorem enW_ok {w : Wsh} (hw : okW w) : okW (enW w) := by
  unfold enW
  split
  · exact ⟨wv_le _, hw.2.1, enP_ok hw⟩
  · exact hw
def enN (s : Sta) : Nat → Nat
  | 0 => 0
  | n + 1 => enN s n + (match s.2.2[n]? with | some w => if enB w = true then wv (enP w) else 0 | none => 0)
theorem enN_succ {s : Sta} {n : Nat} (h : n < s.2.2.length) : enN s (n + 1) = enN s n + (if enB s.2.2[n] = true then wv (enP s.2.2[n]) else 0) := by
  have : enN s (n + 1) = enN s n + (match s.2.2[n]? with | some w => if enB w = true then wv (enP w) else 0 | none => 0) := rfl
  rw [this, List.getElem?_eq_getElem h]
def enS (s : Sta) (j : Nat) : Sta := (true, s.2.1, pW enW s.2.2 j)
theorem enS_ok {s : Sta} (hs : okS s) (j : Nat) : okS (enS s j) := by
  refine ⟨hs.1, hs.2.1, by show (pW enW s.2.2 j).length ≤ 8; rw [pW_len]; exact hs.2.2.1, fun w hw => ?_⟩
  rcases pW_mem hw with h | ⟨y, hy, rfl⟩
  · exact hs.2.2.2 w h
  · exact enW_ok (hs.2.2.2 y hy)
theorem enS_succ {s : Sta} {j : Nat} (h : j < s.2.2.length) : setW (enS s j) j (enW s.2.2[j]) = enS s (j + 1) := by
  unfold setW enS
  rw [pW_set enW s.2.2 j h]
theorem enS_get {s : Sta} {j : Nat} (h : j < s.2.2.length) : (enS s j).2.2[j]'(by show j < (pW enW s.2.2 j).length; rw [pW_len]; exact h) = s.2.2[j] := pW_get enW s.2.2 j h
def FA (M M' : Mem) (cs : Nat) : Prop := ∀ c, c = 0 ∨ (16 ≤ c ∧ c ≠ 18 ∧ (c < cs ∨ cs + 27 ≤ c)) → M' c = M c
theorem cend_35 {s : Sta} {cs : Nat} (hs : okS s) (hcs : 29 ≤ cs) : ∀ (n j acc : Nat) (M : Mem) (tb : List T), j ≤ s.2.2.length → s.2.2.length - j < n → FT M tb → RC M cs (enS s j) → acc = enN s j → ∃ (M' : Mem) (tb' : List T), f_X6_end_35 n cs (nI acc) (nI j) M = ((f_X6_recordAndGoOn M').bind fun q2 => some (nI (enN s s.2.2.length), q2.2)) ∧ FT M' tb' ∧ RC M' cs (enS s s.2.2.length) ∧ FA M M' cs := by
  have h8 := hs.2.2.1
  intro n
  induction n with
  | zero => intro j acc M tb _ h; omega
  | succ n ih =>
    intro j acc M tb h1 h2 hF hR hacc
    have hlen : (enS s j).2.2.length = s.2.2.length := pW_len _ _ _
    rw [f_X6_end_35, hR.2.2.1, hlen]
    unfold f_X6_end_92
    by_cases hj : j < s.2.2.length
    · have hw := hs.2.2.2 s.2.2[j] (List.getElem_mem hj)
      have rj := hR.2.2.2.2 j (by rw [hlen]; exact hj)
      rw [enS_get hj] at rj
      have hsucc := enN_succ hj
      have hacc2 : acc ≤ 2 * j := by
        rw [hacc]
        have : ∀ m, m ≤ s.2.2.length → enN s m ≤ 2 * m := by
          intro m
          induction m with
          | zero => intro _; exact Nat.le_refl _
          | succ m ihm =>
            intro hm
            have := ihm (by omega)
            rw [enN_succ (by omega)]
            have := wv_le (enP s.2.2[m])
            split <;> omega
        exact this j (by omega)
      rw [if_pos ((nlt (by omega) (by omega)).mpr hj), mlW_ok (by omega), Option.bind_some, rj.1, rj.2.1]
      have hv := hw.1
      simp (disch := omega) only [bI_0', neq, nI_add]
      -- a wish that stays as it is
      have skip : enB s.2.2[j] = false → ∃ (M' : Mem) (tb' : List T), f_X6_end_35 n cs (nI acc) (nI (j + 1)) M = ((f_X6_recordAndGoOn M').bind fun q2 => some (nI (enN s s.2.2.length), q2.2)) ∧ FT M' tb' ∧ RC M' cs (enS s s.2.2.length) ∧ FA M M' cs := fun hb => by
        rw [hb] at hsucc
        refine ih (j + 1) acc M tb (by omega) (by omega) hF ?_ (by rw [hsucc, hacc]; rfl)
        rw [← enS_succ hj]
        have he : enW s.2.2[j] = s.2.2[j] := by unfold enW; rw [if_neg (by rw [hb]; decide)]
        rw [he]
        refine hR.setW (enS_ok hs j) rj (fun _ _ _ _ _ _ => rfl)
      cases q : s.2.2[j].1 with
      | false =>
        rw [if_pos rfl]
        exact skip (by unfold enB; rw [q]; rfl)
      | true =>
        rw [if_neg (by decide)]
        by_cases q2 : s.2.2[j].2.1 = 2
        · have hb : enB s.2.2[j] = true := by unfold enB; rw [q, q2]; rfl
          rw [hb, if_pos rfl] at hsucc
          rw [if_pos q2]
          unfold f_X6_endParts
          have rj0 : RCw M (cs + 3 + 3 * j) (withP s.2.2[j] (pW enT (wP s.2.2[j]) 0)) := by rw [pW_zero]; exact rj
          obtain ⟨M1, tb1, e1, f1, r1, o1⟩ := endParts_2 (by omega) hw fuelN 0 M tb (Nat.zero_le _) (by have := hw.2.2.2.1; unfold fuelN; omega) hF rj0
          obtain ⟨b0, b1, b2, b3, b4, b5, b6⟩ := r1
          rw [e1, Option.bind_some, verdictOf_ok (enP_ok hw) b2 b6, Option.bind_some]
          dsimp only
          rw [mpi_n, Option.bind_some, mwr_at, nI_add]
          have he : enW s.2.2[j] = (s.2.2[j].1, wv (enP s.2.2[j]), s.2.2[j].2.2.1, s.2.2[j].2.2.2.1, s.2.2[j].2.2.2.2.1, enP s.2.2[j]) := by unfold enW; rw [if_pos hb]
          have rn : RCw (mwr M1 (cs + 3 + 3 * j) 1 (nI (wv (enP s.2.2[j])))) (cs + 3 + 3 * j) (enW s.2.2[j]) := by
            rw [he]
            exact ⟨by rw [mwr_in _ (by omega)]; exact b0, mwr_at _ _ _ _, by rw [mwr_in _ (by omega)]; exact b2, by rw [mwr_in _ (by omega)]; exact b3, by rw [mwr_in _ (by omega)]; exact b4, by rw [mwr_in _ (by omega)]; exact b5, fun p hp => ⟨by rw [mwr_off _ _ _ (by omega)]; exact (b6 p hp).1, (b6 p hp).2.congr (mwr_ne _ _ _ (by omega))⟩⟩
          obtain ⟨M', tb', e3, f3, r3, o3⟩ := ih (j + 1) (acc + wv (enP s.2.2[j])) (mwr M1 (cs + 3 + 3 * j) 1 (nI (wv (enP s.2.2[j])))) tb1 (by omega) (by omega) (f1.congr (fun c _ _ => mwr_ne _ _ _ (by omega))) (by
            rw [← enS_succ hj]
            exact hR.setW (enS_ok hs j) rn (fun d q1 q2 q3 q4 q5 => by rw [mwr_ne _ _ _ q3, o1 d (by omega)])) (by rw [hsucc, hacc])
          exact ⟨M', tb', e3, f3, r3, fun c hc => by rw [o3 c hc, mwr_ne _ _ _ (by omega), o1 c (by omega)]⟩
        · rw [if_neg q2]
          exact skip (by unfold enB; rw [q, Bool.true_and]; simpa using q2)
    · have : j = s.2.2.length := by omega
      subst this
      rw [if_neg (fun q => hj ((nlt (by omega) (by omega)).mp q)), hacc]
      exact ⟨M, tb, rfl, hF, hR, fun _ _ => rfl⟩
