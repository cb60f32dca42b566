/-! event() -/
theorem rew_size (set : Nat) : ∀ t : T, size (rew set t) ≤ ((subl t).map fun x => size x + 4).sum := by
  intro t
  induction t using T_ind with
  | h k ts ih =>
    rw [subl_nd, List.map_cons, List.sum_cons, sum_flatten, rew_nd]
    have h1 : ((ts.map (rew set)).map size).sum ≤ (ts.map fun t => ((subl t).map fun x => size x + 4).sum).sum := by
      rw [List.map_map]
      exact sum_le_map _ _ ts ih
    have h0 := size_pos (nd k ts)
    have hd : size (ts.headD (lf 0)) ≤ size (nd k ts) := by
      cases ts with
      | nil => show size (lf 0) ≤ _; rw [size_lf]; exact h0
      | cons a l => exact Nat.le_of_lt (size_kid (by rw [kids_nd]; exact List.mem_cons_self))
    have hl : ∀ l : List T, size (l.getD 1 (lf 0)) + size (l.headD (lf 0)) ≤ (l.map size).sum + 2 := by
      intro l
      match l with
      | [] => show size (lf 0) + size (lf 0) ≤ _; rw [size_lf]; omega
      | [a] => show size (lf 0) + size a ≤ _; rw [size_lf]; simp only [List.map_cons, List.sum_cons]; omega
      | a :: b :: l => show size b + size a ≤ _; simp only [List.map_cons, List.sum_cons]; omega
    have hl := hl (ts.map (rew set))
    have j2 : ∀ (k : Nat) (a b : T), size (joinT k [a, b]) ≤ 1 + (size a + size b) := fun k a b => by
      have := joinT_size k [a, b]
      simp only [List.map_cons, List.map_nil, List.sum_cons, List.sum_nil] at this
      omega
    generalize (ts.map fun t => ((subl t).map fun x => size x + 4).sum).sum = S at *
    unfold rewN
    split
    · rcases rewL_lf set k with e | e <;> rw [e, size_lf] <;> omega
    · split
      · have := j2 20 (lf 2) (ts.headD (lf 0))
        rw [size_lf] at this
        omega
      · split
        · have := j2 21 (lf 3) (ts.headD (lf 0))
          rw [size_lf] at this
          omega
        · split
          · have a1 := j2 21 ((ts.map (rew set)).getD 1 (lf 0)) (joinT 20 [(ts.map (rew set)).headD (lf 0), nd k ts])
            have a2 := j2 20 ((ts.map (rew set)).headD (lf 0)) (nd k ts)
            omega
          · split
            · have a1 := j2 20 ((ts.map (rew set)).getD 1 (lf 0)) (joinT 21 [(ts.map (rew set)).headD (lf 0), nd k ts])
              have a2 := j2 21 ((ts.map (rew set)).headD (lf 0)) (nd k ts)
              omega
            · have := joinT_size k (ts.map (rew set))
              omega
theorem sum_four (l : List T) : (l.map fun x => size x + 4).sum = (l.map size).sum + 4 * l.length := by
  induction l with
  | nil => rfl
  | cons a l ih => simp only [List.map_cons, List.sum_cons, List.length_cons, ih]; omega
theorem rew_size' {set : Nat} {t : T} (h : size t ≤ 120) : size (rew set t) ≤ 7740 := by
  have h1 := rew_size set t
  have h2 := subl_sq120 h
  rw [sum_four, subl_len] at h1
  omega
def rws (set : Nat) (t : T) : T := if size (rew set t) ≤ 120 then rew set t else t
theorem rws_ok {set : Nat} {t : T} (h : AR t = true ∧ size t ≤ 120) : AR (rws set t) = true ∧ size (rws set t) ≤ 120 := by
  unfold rws
  split
  next q => exact ⟨rew_AR set t h.1, q⟩
  next q => exact h
def evP (set : Nat) (w : Wsh) : List T := (wP w).map (rws set)
def bgT (set : Nat) (t : T) : Bool := decide (120 < size (rew set t))
def bgW (set : Nat) (w : Wsh) : Bool := w.1 && (wP w).any (bgT set)
def evB (set : Nat) (w : Wsh) : Bool := w.2.1 == 2 && wv (evP set w) != 2
def evI (set : Nat) (tm : Int32) (w : Wsh) : Wsh := if evB set w = true then (w.1, wv (evP set w), tm, if wv (evP set w) = 0 then nI (blm w set 6) else nI 0, w.2.2.2.2.1, evP set w) else withP w (evP set w)
def evW (set : Nat) (tm : Int32) (w : Wsh) : Wsh := if w.1 = true then evI set tm w else w
theorem evP_ok {set : Nat} {w : Wsh} (hw : okW w) : okP (evP set w) := okP_map hw.2.2 (fun t ht => rws_ok (hw.2.2.2.2 t ht))
theorem evI_ok {set : Nat} {tm : Int32} {w : Wsh} (hw : okW w) : okW (evI set tm w) := by
  unfold evI
  split
  · exact ⟨wv_le _, hw.2.1, evP_ok hw⟩
  · exact ⟨hw.1, hw.2.1, evP_ok hw⟩
theorem evW_ok {set : Nat} {tm : Int32} {w : Wsh} (hw : okW w) : okW (evW set tm w) := by
  unfold evW
  split
  · exact evI_ok hw
  · exact hw
def evN (set : Nat) (s : Sta) : Nat → Nat
  | 0 => 0
  | n + 1 => evN set s n + one (match s.2.2[n]? with | some w => w.1 && evB set w | none => false)
theorem evN_succ {set : Nat} {s : Sta} {n : Nat} (h : n < s.2.2.length) : evN set s (n + 1) = evN set s n + one (s.2.2[n].1 && evB set s.2.2[n]) := by
  have : evN set s (n + 1) = evN set s n + one (match s.2.2[n]? with | some w => w.1 && evB set w | none => false) := rfl
  rw [this, List.getElem?_eq_getElem h]
def evS (set : Nat) (s : Sta) (j : Nat) : Sta := (s.1, s.2.1, pW (evW set (nI s.2.1.length)) s.2.2 j)
theorem evS_ok {set : Nat} {s : Sta} (hs : okS s) (j : Nat) : okS (evS set s j) := by
  refine ⟨hs.1, hs.2.1, by show (pW (evW set (nI s.2.1.length)) s.2.2 j).length ≤ 8; rw [pW_len]; exact hs.2.2.1, fun w hw => ?_⟩
  rcases pW_mem hw with h | ⟨y, hy, rfl⟩
  · exact hs.2.2.2 w h
  · exact evW_ok (hs.2.2.2 y hy)
theorem evS_succ {set : Nat} {s : Sta} {j : Nat} (h : j < s.2.2.length) : setW (evS set s j) j (evW set (nI s.2.1.length) s.2.2[j]) = evS set s (j + 1) := by
  unfold setW evS
  rw [pW_set (evW set (nI s.2.1.length)) s.2.2 j h]
theorem evS_get {set : Nat} {s : Sta} {j : Nat} (h : j < s.2.2.length) : (evS set s j).2.2[j]'(by show j < (pW (evW set (nI s.2.1.length)) s.2.2 j).length; rw [pW_len]; exact h) = s.2.2[j] := pW_get (evW set (nI s.2.1.length)) s.2.2 j h
theorem rwp_3 {c1 c2 set : Nat} {w : Wsh} (hx1 : 20 ≤ c1) (hx2 : 20 ≤ c2) (hfar : c1 + 3 ≤ c2 ∨ c2 + 3 ≤ c1) (hw : okW w) (hset : set < 64) : ∀ (n p : Nat) (M : Mem) (tb : List T), p ≤ (wP w).length → (wP w).length - p < n → FT M tb → RCw M c1 w → RCw M c2 (withP w (pW (rws set) (wP w) p)) → ∃ (M' : Mem) (tb' : List T), f_X6_rewriteParts_3 n c1 c2 (nI set) (nI p) M = some (bI (!((wP w).drop p).any (bgT set)), M') ∧ FT M' tb' ∧ FE M M' c2 ∧ (((wP w).drop p).any (bgT set) = false → RCw M' c2 (withP w (evP set w))) := by
  have h8 := hw.2.2.2.1
  intro n
  induction n with
  | zero => intro p M tb _ h; omega
  | succ n ih =>
    intro p M tb h1 h2 hF hR1 hR2
    have okp := okP_pW (g := rws set) hw.2.2 (fun t ht => rws_ok (hw.2.2.2.2 t ht)) p
    have okw : okW (withP w (pW (rws set) (wP w) p)) := ⟨hw.1, hw.2.1, okp⟩
    have hpl := pW_len (rws set) (wP w) p
    rw [f_X6_rewriteParts_3, hR1.2.2.1]
    by_cases hp : p < (wP w).length
    · obtain ⟨t1, t2⟩ := hw.2.2.2.2 (wP w)[p] (List.getElem_mem hp)
      obtain ⟨id, M1, tb1, e1, f1, s1, i1, d1, o1⟩ := loadAlone_ok hx1 (show p < 8 by omega) hF t1 t2 (hR1.2.2.2.2.2.2 p hp)
      obtain ⟨y, M2, tc, e2, f2, i2, d2, o2⟩ := behind_sub f1 hset i1 t2 s1
      have aa := (f2.2.2.2.2.2.1 y i2).2.2.1
      have hl2 := f2.2.1
      have hsz := rew_size' (set := set) t2
      have o12 : FQ M M2 := fun c hc => by rw [o2 c (by omega), o1 c (by omega)]
      rw [if_pos ((nlt (by omega) (by omega)).mpr hp), e1, Option.bind_some]
      dsimp only
      rw [e2, Option.bind_some]
      dsimp only
      rw [mrd_n (by omega) (by omega), Option.bind_some, aa, d2, d1, List.drop_eq_getElem_cons hp, List.any_cons]
      by_cases q : 120 < size (rew set (wP w)[p])
      · rw [if_pos ((nlt (by omega) (by omega)).mpr q), mrz_0]
        have : bgT set (wP w)[p] = true := decide_eq_true q
        rw [this, Bool.true_or]
        exact ⟨M2, _, rfl, f2, fun c hc => o12 c (by omega), fun h => by cases h⟩
      · rw [if_neg (fun z => q ((nlt (by omega) (by omega)).mp z))]
        have : bgT set (wP w)[p] = false := decide_eq_false q
        rw [this, Bool.false_or]
        have ht : rws set (wP w)[p] = rew set (wP w)[p] := if_pos (by omega)
        obtain ⟨M3, e3, f3, r3, o3⟩ := savePart hx2 okw f2 (hR2.q hx2 o12) (id := y) (t := rws set (wP w)[p]) i2 (by rw [d2, d1, ht]) (by rw [ht]; omega) (by rw [wP_withP, hpl]; exact hp)
        have e4 : withP (withP w (pW (rws set) (wP w) p)) ((wP (withP w (pW (rws set) (wP w) p))).set p (rws set (wP w)[p])) = withP w (pW (rws set) (wP w) (p + 1)) := by
          rw [wP_withP, pW_set (rws set) (wP w) p hp]; rfl
        rw [e4] at r3
        rw [e3, Option.bind_some, nI_add]
        have o13 : FE M M3 c2 := fun c hc => by rw [o3 c (by omega) (by omega) (by omega), o12 c (by omega)]
        obtain ⟨M', tb', e5, f5, o5, r5⟩ := ih (p + 1) M3 _ (by omega) (by omega) f3 (hR1.congr (o13 _ (by omega)) (o13 _ (by omega)) (o13 _ (by omega))) r3
        exact ⟨M', tb', e5, f5, fun c hc => by rw [o5 c hc, o13 c hc], r5⟩
    · have : p = (wP w).length := by omega
      subst this
      rw [pW_all] at hR2
      rw [if_neg (fun q => hp ((nlt (by omega) (by omega)).mp q)), mrz_1, List.drop_length]
      exact ⟨M, tb, rfl, hF, fun _ _ => rfl, fun _ => hR2⟩
def evFin (set cs acc : Nat) (M : Mem) : Option Rv := (mst M (cs + 1) 40 (M cs 1) (nI set)).bind fun M3 => (mpi M3 cs 1 ((M3 cs 1) + (nI 1))).bind fun M4 => (f_X6_recordAndGoOn M4).bind fun q5 => some (nI acc, q5.2)
def EvG (set : Nat) (s : Sta) (cs : Nat) (M : Mem) (o : Option Rv) : Prop := ∃ (M' : Mem) (tb' : List T), FT M' tb' ∧ FA M M' cs ∧ ((o = some ((-3), M') ∧ s.2.2.any (bgW set) = true) ∨ (s.2.2.any (bgW set) = false ∧ RC M' cs (evS set s s.2.2.length) ∧ o = evFin set cs (evN set s s.2.2.length) M'))
theorem evN_le (set : Nat) (s : Sta) : ∀ m, m ≤ s.2.2.length → evN set s m ≤ m := by
  intro m
  induction m with
  | zero => intro _; exact Nat.le_refl _
  | succ m ihm =>
    intro hm
    have := ihm (by omega)
    rw [evN_succ (by omega)]
    have := one_le (s.2.2[m].1 && evB set s.2.2[m])
    omega
theorem cev_59 {s : Sta} {cn cs set : Nat} (hs : okS s) (hset : set < 64) (hn : isSc cn) (hcs : 29 ≤ cs) (hns : cn + 27 ≤ cs ∨ cs + 27 ≤ cn) : ∀ (n j acc : Nat) (M : Mem) (tb : List T), j ≤ s.2.2.length → s.2.2.length - j < n → FT M tb → M 0 8 = nI cn → RC M cn s → RC M cs (evS set s j) → acc = evN set s j → (s.2.2.take j).any (bgW set) = false → EvG set s cs M (f_X6_event_59 n (nI set) cs (nI acc) (nI j) M) := by
  have h8 := hs.2.2.1
  have h40 := hs.1
  have gn := isSc_ge hn
  intro n
  induction n with
  | zero => intro j acc M tb _ h; omega
  | succ n ih =>
    intro j acc M tb h1 h2 hF h08 hR hR2 hacc hsm
    rw [f_X6_event_59, h08, mlS_ok hn, Option.bind_some, hR.2.2.1]
    unfold f_X6_event_160 f_X6_event_166
    by_cases hj : j < s.2.2.length
    · have hw := hs.2.2.2 s.2.2[j] (List.getElem_mem hj)
      have rj := hR.2.2.2.2 j hj
      have rs := hR2.2.2.2.2 j (by show j < (pW (evW set (nI s.2.1.length)) s.2.2 j).length; rw [pW_len]; exact hj)
      rw [evS_get hj] at rs
      have hsucc := evN_succ (set := set) hj
      have hle := evN_le set s j (by omega)
      generalize hcw : cs + 3 + 3 * j = cw at *
      have go : ∀ (M2 : Mem) (tb2 : List T) (acc2 : Nat), FT M2 tb2 → RCw M2 cw (evW set (nI s.2.1.length) s.2.2[j]) → (∀ c, c = 0 ∨ (16 ≤ c ∧ c ≠ 18 ∧ c ≠ cw ∧ c ≠ cw + 1 ∧ c ≠ cw + 2) → M2 c = M c) → acc2 = evN set s (j + 1) → bgW set s.2.2[j] = false → EvG set s cs M (f_X6_event_59 n (nI set) cs (nI acc2) (nI (j + 1)) M2) := fun M2 tb2 acc2 f2 r2 o2 ha hb => by
        subst hcw
        obtain ⟨M', tb', g1, g2, g3⟩ := ih (j + 1) acc2 M2 tb2 (by omega) (by omega) f2 (by rw [o2 0 (by omega)]; exact h08) (hR.congr hs (fun d p q => o2 d (by omega))) (by
          rw [← evS_succ hj]
          exact hR2.setW (evS_ok hs j) r2 (fun d q1 q2 q3 q4 q5 => o2 d (by omega))) ha (by
          rw [List.take_succ_eq_append_getElem hj, List.any_append, hsm, List.any_cons, hb]; rfl)
        exact ⟨M', tb', g1, fun c hc => by rw [g2 c hc, o2 c (by omega)], g3⟩
      rw [if_pos ((nlt (by omega) (by omega)).mpr hj), Option.bind_some, mlW_ok (by omega), Option.bind_some, mlW_ok (by omega), Option.bind_some, hcw, rj.1]
      have hv := hw.1
      simp only [bI_0', nI_add]
      cases q : s.2.2[j].1 with
      | false =>
        rw [if_pos rfl]
        have he : evW set (nI s.2.1.length) s.2.2[j] = s.2.2[j] := by unfold evW; rw [if_neg (by rw [q]; decide)]
        refine go M tb acc hF (by rw [he]; exact rs) (fun _ _ => rfl) (by rw [hsucc, q, Bool.false_and]; exact hacc) (by unfold bgW; rw [q]; rfl)
      | true =>
        rw [if_neg (by decide)]
        have he : evW set (nI s.2.1.length) s.2.2[j] = evI set (nI s.2.1.length) s.2.2[j] := by unfold evW; rw [if_pos q]
        rw [he] at go
        rw [q, Bool.true_and] at hsucc
        unfold f_X6_rewriteParts
        have rs0 : RCw M cw (withP s.2.2[j] (pW (rws set) (wP s.2.2[j]) 0)) := by rw [pW_zero]; exact rs
        obtain ⟨M1, tb1, e1, f1, o1, r1⟩ := rwp_3 (c1 := cn + 3 + 3 * j) (c2 := cw) (by omega) (by omega) (by omega) hw hset fuelN 0 M tb (Nat.zero_le _) (by have := hw.2.2.2.1; unfold fuelN; omega) hF rj rs0
        rw [List.drop_zero] at e1 r1
        rw [e1, Option.bind_some]
        simp only [bI_0']
        cases hb : (wP s.2.2[j]).any (bgT set) with
        | true =>
          rw [if_pos (by decide)]
          refine ⟨M1, tb1, f1, fun c hc => o1 c (by omega), Or.inl ⟨rfl, ?_⟩⟩
          exact List.any_eq_true.mpr ⟨s.2.2[j], List.getElem_mem hj, by unfold bgW; rw [q, hb]; rfl⟩
        | false =>
          rw [if_neg (by decide)]
          have hbw : bgW set s.2.2[j] = false := by unfold bgW; rw [hb, Bool.and_false]
          have r2 := r1 hb
          have rj1 : RCw M1 (cn + 3 + 3 * j) s.2.2[j] := rj.congr (o1 _ (by omega)) (o1 _ (by omega)) (o1 _ (by omega))
          rw [rj1.2.1]
          simp (disch := omega) only [neq]
          by_cases q2 : s.2.2[j].2.1 = 2
          · rw [if_pos q2]
            unfold f_X5_judge
            obtain ⟨b0, b1, b2, b3, b4, b5, b6⟩ := id r2
            rw [o1 0 (by omega), h08, mlS_ok hn, Option.bind_some, verdictOf_ok (evP_ok hw) b2 b6, Option.bind_some]
            dsimp only
            have hvl := wv_le (evP set s.2.2[j])
            rw [mpi_n, Option.bind_some, mwr_at, o1 cn (by omega), hR.2.1]
            simp (disch := omega) only [neq]
            by_cases q3 : wv (evP set s.2.2[j]) = 2
            · rw [if_pos q3, mrz_0, Option.bind_some]
              dsimp only
              rw [bI_f, if_pos rfl, q3]
              have hB : evB set s.2.2[j] = false := by unfold evB; rw [q3]; simp
              have hI : evI set (nI s.2.1.length) s.2.2[j] = withP s.2.2[j] (evP set s.2.2[j]) := by unfold evI; rw [if_neg (by rw [hB]; decide)]
              refine go _ tb1 acc (f1.congr (fun c _ _ => mwr_ne _ _ _ (by omega))) ?_ (fun c hc => by rw [mwr_ne _ _ _ (by omega), o1 c (by omega)]) (by rw [hsucc, hB]; exact hacc) hbw
              rw [hI]
              exact ⟨by rw [mwr_in _ (by omega)]; exact b0, by rw [mwr_at]; show nI 2 = nI s.2.2[j].2.1; rw [q2], by rw [mwr_in _ (by omega)]; exact b2, by rw [mwr_in _ (by omega)]; exact b3, by rw [mwr_in _ (by omega)]; exact b4, by rw [mwr_in _ (by omega)]; exact b5, fun p hp => ⟨by rw [mwr_off _ _ _ (by omega)]; exact (b6 p hp).1, (b6 p hp).2.congr (mwr_ne _ _ _ (by omega))⟩⟩
            · have hB : evB set s.2.2[j] = true := by unfold evB; rw [q2]; simpa using q3
              have hI : evI set (nI s.2.1.length) s.2.2[j] = (s.2.2[j].1, wv (evP set s.2.2[j]), nI s.2.1.length, if wv (evP set s.2.2[j]) = 0 then nI (blm s.2.2[j] set 6) else nI 0, s.2.2[j].2.2.2.2.1, evP set s.2.2[j]) := by unfold evI; rw [if_pos hB]
              rw [if_neg q3, mpi_n, Option.bind_some, mrz_1, Option.bind_some]
              dsimp only
              rw [bI_t, if_neg (by decide)]
              have hacc2 : acc + 1 = evN set s (j + 1) := by rw [hsucc, hB, hacc]; rfl
              generalize hM3 : mwr (mwr M1 cw 1 (nI (wv (evP set s.2.2[j])))) cw 3 (nI s.2.1.length) = M3
              have far : ∀ c, c ≠ cw → M3 c = M1 c := fun c hc => by rw [← hM3, mwr_ne _ _ _ hc, mwr_ne _ _ _ hc]
              have k0 : M3 cw 0 = bI s.2.2[j].1 := by rw [← hM3, mwr_in _ (by omega), mwr_in _ (by omega)]; exact b0
              have k1 : M3 cw 1 = nI (wv (evP set s.2.2[j])) := by rw [← hM3, mwr_in _ (by omega), mwr_at]
              have k2 : M3 cw 2 = nI (evP set s.2.2[j]).length := by rw [← hM3, mwr_in _ (by omega), mwr_in _ (by omega)]; exact b2
              have k3 : M3 cw 3 = nI s.2.1.length := by rw [← hM3, mwr_at]
              have k5 : M3 cw 5 = nI s.2.2[j].2.2.2.2.1 := by rw [← hM3, mwr_in _ (by omega), mwr_in _ (by omega)]; exact b5
              have fin : ∀ (M4 : Mem) (tb4 : List T) (v : Int32), FT M4 tb4 → (∀ c, c = 0 ∨ (16 ≤ c ∧ c ≠ 18) → M4 c = M3 c) → v = (if wv (evP set s.2.2[j]) = 0 then nI (blm s.2.2[j] set 6) else nI 0) → EvG set s cs M ((mpi M4 cw 4 v).bind fun M1 => f_X6_event_59 n (nI set) cs (nI (acc + 1)) (nI (j + 1)) M1) := fun M4 tb4 v f4 o4 hvv => by
                rw [mpi_n, Option.bind_some]
                refine go _ tb4 (acc + 1) (f4.congr (fun c _ _ => mwr_ne _ _ _ (by omega))) ?_ (fun c hc => by rw [mwr_ne _ _ _ (by omega), o4 c (by omega), far c (by omega), o1 c (by omega)]) hacc2 hbw
                have w4 := o4 cw (by omega)
                rw [hI]
                exact ⟨by rw [mwr_in _ (by omega), w4]; exact k0, by rw [mwr_in _ (by omega), w4]; exact k1, by rw [mwr_in _ (by omega), w4]; exact k2, by rw [mwr_in _ (by omega), w4]; exact k3, by rw [mwr_at]; exact hvv, by rw [mwr_in _ (by omega), w4]; exact k5, fun p hp => ⟨by rw [mwr_off _ _ _ (by omega), o4 _ (by omega), far _ (by omega)]; exact (b6 p hp).1, (b6 p hp).2.congr (by rw [mwr_ne _ _ _ (by omega), o4 _ (by omega), far _ (by omega)])⟩⟩
              have f3 : FT M3 tb1 := f1.congr (fun c _ _ => far c (by omega))
              simp only [k1]
              simp (disch := omega) only [neq]
              by_cases q4 : wv (evP set s.2.2[j]) = 0
              · rw [if_pos q4]
                obtain ⟨M4, tb4, e4, f4, o4⟩ := blame_ok (cw := cn + 3 + 3 * j) (by omega) hw f3 (rj1.congr (far _ (by omega)) (far _ (by omega)) (far _ (by omega))) hset
                rw [e4, Option.bind_some]
                exact fin M4 tb4 _ f4 o4 (by rw [if_pos q4])
              · rw [if_neg q4]
                exact fin M3 tb1 _ f3 (fun _ _ => rfl) (by rw [if_neg q4])
          · rw [if_neg q2]
            have hB : evB set s.2.2[j] = false := by unfold evB; simp [q2]
            have hI : evI set (nI s.2.1.length) s.2.2[j] = withP s.2.2[j] (evP set s.2.2[j]) := by unfold evI; rw [if_neg (by rw [hB]; decide)]
            exact go M1 tb1 acc f1 (by rw [hI]; exact r2) (fun c hc => o1 c (by omega)) (by rw [hsucc, hB]; exact hacc) hbw
    · have : j = s.2.2.length := by omega
      subst this
      rw [if_neg (fun q => hj ((nlt (by omega) (by omega)).mp q)), hacc]
      rw [List.take_length] at hsm
      exact ⟨M, tb, hF, fun _ _ => rfl, Or.inr ⟨hsm, hR2, rfl⟩⟩
