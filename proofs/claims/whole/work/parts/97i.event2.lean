/-! event(), in the model -/
theorem mtg_17 {k4 : Int32 → Int32 → Int32 → Mem → Option Rv} {s : Sta} {k set : Nat} (hs : okS s) (hset : set < 64) (hk : k < s.2.2.length) : ∀ (n p : Nat) (M : Mem) (b : Bool), p ≤ (wP s.2.2[k]).length → (wP s.2.2[k]).length - p < n → RM (M 219) s → ∃ M', f_X7_isTooGreat_17 k4 n (nI set) (bI b) (nI k) (nI p) M = k4 (nI set) (bI (b || (s.2.2[k].1 && ((wP s.2.2[k]).drop p).any (bgT set)))) (nI (k + 1)) M' ∧ FW M M' := by
  have h8 := hs.2.2.1
  have hw := hs.2.2.2 s.2.2[k] (List.getElem_mem hk)
  have hp8 := hw.2.2.2.1
  intro n
  induction n with
  | zero => intro p M b _ h; omega
  | succ n ih =>
    intro p M b h1 h2 hR
    have rk := hR.2.2.2.2 k hk
    rw [f_X7_isTooGreat_17, w_ok, Option.bind_some]
    unfold f_X7_isTooGreat_72 f_X7_isTooGreat_79
    dsimp only
    rw [nI_add, mrd_n (by omega) (by omega), Option.bind_some, rk.2.2.2.2.2.1]
    by_cases hp : p < (wP s.2.2[k]).length
    · obtain ⟨t1, t2⟩ := hw.2.2.2.2 (wP s.2.2[k])[p] (List.getElem_mem hp)
      rw [if_pos ((nlt (by omega) (by omega)).mpr hp), isThere_k hR hs (by omega), Option.bind_some, thk_in hk]
      simp only [bI_0', nI_add]
      cases q : s.2.2[k].1 with
      | false =>
        rw [if_pos rfl, Bool.false_and, Bool.or_false]
        exact ⟨M, rfl, FW.rfl' M⟩
      | true =>
        rw [if_neg (by decide), Bool.true_and]
        cases b with
        | true =>
          rw [if_neg (by decide), Bool.true_or]
          exact ⟨M, rfl, FW.rfl' M⟩
        | false =>
          obtain ⟨y, M2, tb2, id, M1, e1, e2, f2, i2, d2, o2⟩ := mrew_part (show k < 8 by omega) (show p < 8 by omega) t2 (rk.2.2.2.2.2.2 p hp) hset
          have aa := (f2.2.2.2.2.2.1 y i2).2.1
          have hl2 := f2.2.1
          have hsz := rew_size' (set := set) t2
          rw [if_pos rfl, e1, Option.bind_some]
          dsimp only
          rw [e2, Option.bind_some]
          dsimp only
          rw [mrd_n (by omega) (by omega), Option.bind_some, aa, d2, List.drop_eq_getElem_cons hp, List.any_cons, Bool.false_or]
          have ihh := fun b => ih (p + 1) M2 b (by omega) (by omega) (by rw [o2.1 219 (by omega)]; exact hR)
          simp only [q, Bool.true_and] at ihh
          by_cases z : 120 < size (rew set (wP s.2.2[k])[p])
          · have : bgT set (wP s.2.2[k])[p] = true := decide_eq_true z
            rw [if_pos ((nlt (by omega) (by omega)).mpr z), this]
            obtain ⟨M', e3, o3⟩ := ihh true
            exact ⟨M', e3, o2.tr o3⟩
          · have : bgT set (wP s.2.2[k])[p] = false := decide_eq_false z
            rw [if_neg (fun z2 => z ((nlt (by omega) (by omega)).mp z2)), this]
            obtain ⟨M', e3, o3⟩ := ihh false
            exact ⟨M', e3, o2.tr o3⟩
    · have : p = (wP s.2.2[k]).length := by omega
      subst this
      rw [if_neg (fun q => hp ((nlt (by omega) (by omega)).mp q)), List.drop_length, List.any_nil, Bool.and_false, Bool.or_false, nI_add]
      exact ⟨M, rfl, FW.rfl' M⟩
theorem mtg_4 {s : Sta} {set : Nat} (hs : okS s) (hset : set < 64) : ∀ (n k : Nat) (M : Mem) (b : Bool), k ≤ s.2.2.length → s.2.2.length - k < n → RM (M 219) s → ∃ M', f_X7_isTooGreat_4 n (nI set) (bI b) (nI k) M = some (bI (b || (s.2.2.drop k).any (bgW set)), M') ∧ FW M M' := by
  have h8 := hs.2.2.1
  intro n
  induction n with
  | zero => intro k M b _ h; omega
  | succ n ih =>
    intro k M b h1 h2 hR
    rw [f_X7_isTooGreat_4, mrd_n (by omega) (by omega), Option.bind_some, hR.2.2.1]
    by_cases hk : k < s.2.2.length
    · rw [if_pos ((nlt (by omega) (by omega)).mpr hk)]
      have hw := hs.2.2.2 s.2.2[k] (List.getElem_mem hk)
      obtain ⟨M1, e1, o1⟩ := mtg_17 (k4 := f_X7_isTooGreat_4 n) hs hset hk fuelN 0 M b (Nat.zero_le _) (by have := hw.2.2.2.1; unfold fuelN; omega) hR
      rw [e1, List.drop_zero]
      obtain ⟨M', e2, o2⟩ := ih (k + 1) M1 (b || bgW set s.2.2[k]) (by omega) (by omega) (by rw [o1.1 219 (by omega)]; exact hR)
      refine ⟨M', ?_, o1.tr o2⟩
      rw [List.drop_eq_getElem_cons hk, List.any_cons, ← Bool.or_assoc, ← e2]
      rfl
    · have : k = s.2.2.length := by omega
      subst this
      rw [if_neg (fun q => hk ((nlt (by omega) (by omega)).mp q)), List.drop_length, List.any_nil, Bool.or_false, mrz_b]
      exact ⟨M, rfl, FW.rfl' M⟩
theorem tooGreat_ok {M : Mem} {s : Sta} {set : Nat} (hs : okS s) (hset : set < 64) (hR : RM (M 219) s) : ∃ M', f_X7_isTooGreat (nI set) M = some (bI (s.2.2.any (bgW set)), M') ∧ FW M M' := by
  have e := mtg_4 hs hset fuelN 0 M false (Nat.zero_le _) (by have := hs.2.2.1; unfold fuelN; omega) hR
  rw [List.drop_zero, Bool.false_or] at e
  exact e
/-- what a wish is after the event, where the verdict is asked for -/
def evO (set : Nat) (tm : Int32) (o : Bool) (v : Int32) (w : Wsh) : Wsh := if (o && wv (evP set w) != 2) = true then (w.1, wv (evP set w), tm, if wv (evP set w) = 0 then v else nI 0, w.2.2.2.2.1, evP set w) else withP w (evP set w)
theorem mhp_34 {w : Wsh} {k set : Nat} {tm v : Int32} {o : Bool} (hk : k < 8) (hw : okW w) (hset : set < 64) (hsm : (wP w).any (bgT set) = false) : ∀ (n p : Nat) (M : Mem), p ≤ (wP w).length → (wP w).length - p < n → RMw (M 219) k (withP w (pW (rws set) (wP w) p)) → M 219 0 = tm → ∃ M', f_X7_happens_34 n (nI k) (nI set) (bI o) v (nI p) M = some (nI (one (o && wv (evP set w) != 2)), M') ∧ RMw (M' 219) k (evO set tm o v w) ∧ FX M M' k := by
  have h8 := hw.2.2.2.1
  intro n
  induction n with
  | zero => intro p M _ h; omega
  | succ n ih =>
    intro p M h1 h2 hR h0
    have okp := okP_pW (g := rws set) hw.2.2 (fun t ht => rws_ok (hw.2.2.2.2 t ht)) p
    have okw : okW (withP w (pW (rws set) (wP w) p)) := ⟨hw.1, hw.2.1, okp⟩
    have hpl := pW_len (rws set) (wP w) p
    rw [f_X7_happens_34, w_ok, Option.bind_some]
    unfold f_X7_happens_88 f_X7_happens_147
    dsimp only
    rw [nI_add, mrd_n (by omega) (by omega), Option.bind_some, hR.2.2.2.2.2.1, wP_withP, hpl]
    by_cases hp : p < (wP w).length
    · obtain ⟨t1, t2⟩ := hw.2.2.2.2 (wP w)[p] (List.getElem_mem hp)
      have hcp := hR.2.2.2.2.2.2 p (by rw [wP_withP, hpl]; exact hp)
      simp only [wP_withP, pW_get (rws set) (wP w) p hp] at hcp
      obtain ⟨y, M2, tb2, id, M1, e1, e2, f2, i2, d2, o2⟩ := mrew_part hk (show p < 8 by omega) t2 hcp hset
      have hb : bgT set (wP w)[p] = false := by
        cases q : bgT set (wP w)[p] with
        | false => rfl
        | true =>
          have := List.any_eq_true.mpr ⟨(wP w)[p], List.getElem_mem hp, q⟩
          rw [hsm] at this; cases this
      have hsz : ¬ 120 < size (rew set (wP w)[p]) := of_decide_eq_false hb
      have ht : rws set (wP w)[p] = rew set (wP w)[p] := if_pos (by omega)
      obtain ⟨M3, e3, f3, r3, o3⟩ := storePart hk okw f2 (by rw [o2.1 219 (by omega)]; exact hR) (id := y) (p := p) (t := rws set (wP w)[p]) i2 (by rw [d2, ht]) (by rw [ht]; omega) (by rw [wP_withP, hpl]; exact hp)
      have e4 : withP (withP w (pW (rws set) (wP w) p)) ((wP (withP w (pW (rws set) (wP w) p))).set p (rws set (wP w)[p])) = withP w (pW (rws set) (wP w) (p + 1)) := by
        rw [wP_withP, pW_set (rws set) (wP w) p hp]; rfl
      rw [e4] at r3
      rw [if_pos ((nlt (by omega) (by omega)).mpr hp), e1, Option.bind_some]
      dsimp only
      rw [e2, Option.bind_some]
      dsimp only
      rw [e3, Option.bind_some, nI_add]
      have hbp := bw_pos k p
      obtain ⟨M', e5, r5, o5⟩ := ih (p + 1) M3 (by omega) (by omega) r3 (by rw [o3.2 0 (by omega), o2.1 219 (by omega)]; exact h0)
      exact ⟨M', e5, r5, (o2.fx.tr (o3.fx (by omega))).tr o5⟩
    · have : p = (wP w).length := by omega
      subst this
      rw [pW_all] at hR
      have okw2 : okW (withP w (evP set w)) := ⟨hw.1, hw.2.1, evP_ok hw⟩
      have hvl := wv_le (evP set w)
      rw [if_neg (fun q => hp ((nlt (by omega) (by omega)).mp q))]
      simp only [bI_0']
      have hno : (o && wv (evP set w) != 2) = false → ∃ M', some (nI 0, M) = some (nI (one (o && wv (evP set w) != 2)), M') ∧ RMw (M' 219) k (evO set tm o v w) ∧ FX M M' k := fun q => by
        rw [q]
        refine ⟨M, rfl, ?_, FX.rfl' M k⟩
        unfold evO
        rw [if_neg (by rw [q]; decide)]
        exact hR
      cases ho : o with
      | false =>
        rw [if_pos rfl]
        subst ho
        exact hno rfl
      | true =>
        subst ho
        rw [if_neg (by decide), verdictBy_ok hk okw2 hR, Option.bind_some]
        dsimp only
        have e6 : wv (wP (withP w (evP set w))) = wv (evP set w) := rfl
        simp only [e6]
        simp (disch := omega) only [neq]
        by_cases q3 : wv (evP set w) = 2
        · rw [if_pos q3]
          exact hno (by rw [q3]; rfl)
        · have hB : (true && wv (evP set w) != 2) = true := by simpa using q3
          rw [if_neg q3, w_ok, Option.bind_some]
          dsimp only
          rw [verdictBy_ok hk okw2 hR, Option.bind_some]
          dsimp only
          rw [e6, nI_add, mst_n (by omega) (by omega), Option.bind_some, w_ok, Option.bind_some]
          dsimp only
          rw [mrd_n (by omega) (by omega), Option.bind_some, nI_add, mst_n (by omega) (by omega), Option.bind_some, w_ok, Option.bind_some]
          dsimp only
          rw [mwr_in _ (show (0 : Nat) ≠ 48 + 8 * k + 1 by omega), h0]
          generalize hN : mwr (mwr M 219 (48 + 8 * k + 1) (nI (wv (evP set w)))) 219 (48 + 8 * k + 2) tm = N
          have fN : FX M N k := by
            rw [← hN]
            exact ((FX.rfl' M k).row (by omega) (by omega)).row (by omega) (by omega)
          obtain ⟨b0, b1, b2, b3, b4, b5, b6⟩ := hR
          have n1 : N 219 (48 + 8 * k + 1) = nI (wv (evP set w)) := by rw [← hN, mwr_in _ (by omega), mwr_at]
          have n2 : N 219 (48 + 8 * k + 2) = tm := by rw [← hN, mwr_at]
          have nn : ∀ i, i ≠ 48 + 8 * k + 1 → i ≠ 48 + 8 * k + 2 → N 219 i = M 219 i := fun i q r => by rw [← hN, mwr_in _ r, mwr_in _ q]
          have ev : f_X7_verdict (nI k) N = some (nI (wv (evP set w)), N) := by
            unfold f_X7_verdict
            rw [w_ok, Option.bind_some]
            dsimp only
            rw [nI_add, mrd_n (by omega) (by omega), Option.bind_some, n1]
          rw [ev, Option.bind_some]
          dsimp only
          have hb := bw_pos k
          have fin : ∀ u : Int32, u = (if wv (evP set w) = 0 then v else nI 0) → ∃ M', ((mst N 219 31088 (nI (48 + 8 * k) + nI 3) u).bind fun M1 => some (nI 1, M1)) = some (nI (one (true && wv (evP set w) != 2)), M') ∧ RMw (M' 219) k (evO set tm true v w) ∧ FX M M' k := fun u hu => by
            rw [nI_add, mst_n (by omega) (by omega), Option.bind_some, hB]
            refine ⟨_, rfl, ?_, fN.row (by omega) (by omega)⟩
            unfold evO
            rw [if_pos hB]
            exact ⟨by rw [mwr_in _ (by omega), nn _ (by omega) (by omega)]; exact b0, by rw [mwr_in _ (by omega)]; exact n1, by rw [mwr_in _ (by omega)]; exact n2, by rw [mwr_at]; exact hu, by rw [mwr_in _ (by omega), nn _ (by omega) (by omega)]; exact b4, by rw [mwr_in _ (by omega), nn _ (by omega) (by omega)]; exact b5, fun p hp => (b6 p hp).congr (okw2.2.2.2.2 _ (List.getElem_mem hp)).2 (fun i q1 q2 => by have := hb p; rw [mwr_in _ (by omega), nn _ (by omega) (by omega)])⟩
          simp (disch := omega) only [neq]
          by_cases q4 : wv (evP set w) = 0
          · rw [if_pos q4]
            exact fin v (by rw [if_pos q4])
          · rw [if_neg q4]
            exact fin (nI 0) (by rw [if_neg q4])
theorem evO_I {set : Nat} {tm v : Int32} {w : Wsh} (hv : w.2.1 = 2 → v = nI (blm w set 6)) : evO set tm (w.2.1 == 2) v w = evI set tm w := by
  unfold evO evI evB
  by_cases q : w.2.1 = 2
  · rw [hv q]
  · have : (w.2.1 == 2) = false := by simpa using q
    rw [this, Bool.false_and, if_neg (by decide), if_neg (by decide)]
theorem happens_ok {M : Mem} {w : Wsh} {k set : Nat} {tm : Int32} (hk : k < 8) (hw : okW w) (hset : set < 64) (hsm : (wP w).any (bgT set) = false) (hR : RMw (M 219) k w) (h0 : M 219 0 = tm) : ∃ M', f_X7_happens (nI k) (nI set) M = some (nI (one (evB set w)), M') ∧ RMw (M' 219) k (evI set tm w) ∧ FX M M' k := by
  have hv := hw.1
  have h8 := hw.2.2.2.1
  unfold f_X7_happens f_X7_happens_14 f_X7_happens_29
  rw [verdict_ok hk hR, Option.bind_some]
  dsimp only
  simp (disch := omega) only [neq]
  by_cases q : w.2.1 = 2
  · have q' : (w.2.1 == 2) = true := by simpa using q
    rw [if_pos q, if_neg (by decide)]
    obtain ⟨M1, e1, o1⟩ := mblame_ok hk hw hset hR
    rw [e1, Option.bind_some]
    dsimp only
    obtain ⟨M2, e2, r2, o2⟩ := mhp_34 (tm := tm) (v := nI (blm w set 6)) (o := w.2.1 == 2) hk hw hset hsm fuelN 0 M1 (Nat.zero_le _) (by unfold fuelN; omega) (by rw [pW_zero, o1.1 219 (by omega)]; exact hR) (by rw [o1.1 219 (by omega)]; exact h0)
    rw [evO_I (fun _ => rfl)] at r2
    rw [q'] at e2
    have : evB set w = (true && wv (evP set w) != 2) := by unfold evB; rw [q']
    rw [this]
    exact ⟨M2, e2, r2, o1.fx.tr o2⟩
  · have q' : (w.2.1 == 2) = false := by simpa using q
    rw [if_neg q, if_pos trivial]
    obtain ⟨M2, e2, r2, o2⟩ := mhp_34 (tm := tm) (v := nI 0) (o := w.2.1 == 2) hk hw hset hsm fuelN 0 M (Nat.zero_le _) (by unfold fuelN; omega) (by rw [pW_zero]; exact hR) h0
    rw [evO_I (fun z => absurd z q)] at r2
    rw [q'] at e2
    have : evB set w = (false && wv (evP set w) != 2) := by unfold evB; rw [q']
    rw [this]
    exact ⟨M2, e2, r2, o2⟩
def evFinM (set ln acc : Nat) (M : Mem) : Option Rv := some (nI acc, mwr (mwr M 219 (4 + ln) (nI set)) 219 0 (nI (ln + 1)))
theorem mev_56 {s : Sta} {set : Nat} (hs : okS s) (hset : set < 64) (hl40 : s.2.1.length < 40) (hsm : s.2.2.any (bgW set) = false) : ∀ (n j acc : Nat) (M : Mem), j ≤ s.2.2.length → s.2.2.length - j < n → RM (M 219) (evS set s j) → acc = evN set s j → ∃ M', f_X7_event_56 n (nI set) (nI acc) (nI j) M = evFinM set s.2.1.length (evN set s s.2.2.length) M' ∧ RM (M' 219) (evS set s s.2.2.length) ∧ (∀ c, c = 220 ∨ c = 221 ∨ 231 ≤ c → M' c = M c) ∧ ∀ i, 16 ≤ i → M' 218 i = M 218 i := by
  have h8 := hs.2.2.1
  intro n
  induction n with
  | zero => intro j acc M _ h; omega
  | succ n ih =>
    intro j acc M h1 h2 hR hacc
    have oks := evS_ok (set := set) hs j
    have hM2 : M 219 2 = nI s.2.2.length := by
      rw [hR.2.2.1]
      show nI (pW (evW set (nI s.2.1.length)) s.2.2 j).length = _
      rw [pW_len]
    have hM0 : M 219 0 = nI s.2.1.length := hR.1
    rw [f_X7_event_56, mrd_n (by omega) (by omega), Option.bind_some, hM2]
    unfold f_X7_event_85
    by_cases hj : j < s.2.2.length
    · have hj2 : j < (evS set s j).2.2.length := by show j < (pW (evW set (nI s.2.1.length)) s.2.2 j).length; rw [pW_len]; exact hj
      have hw := hs.2.2.2 s.2.2[j] (List.getElem_mem hj)
      have rj := hR.2.2.2.2 j hj2
      rw [evS_get hj] at rj
      have hsucc := evN_succ (set := set) hj
      have hthk : thk (evS set s j) j = s.2.2[j].1 := by
        rw [thk_in hj2, evS_get hj]
      rw [if_pos ((nlt (by omega) (by omega)).mpr hj), isThere_k hR oks (by omega), Option.bind_some, hthk]
      simp only [bI_0', nI_add]
      cases q : s.2.2[j].1 with
      | false =>
        rw [if_pos rfl]
        have he : evW set (nI s.2.1.length) s.2.2[j] = s.2.2[j] := by unfold evW; rw [if_neg (by rw [q]; decide)]
        rw [q, Bool.false_and] at hsucc
        refine ih (j + 1) (acc + 0) M (by omega) (by omega) ?_ (by rw [hsucc, hacc]; rfl)
        rw [← evS_succ hj, he]
        exact hR.setW oks (by omega) rj (fun _ _ _ _ => rfl)
      | true =>
        rw [if_neg (by decide)]
        have he : evW set (nI s.2.1.length) s.2.2[j] = evI set (nI s.2.1.length) s.2.2[j] := by unfold evW; rw [if_pos q]
        rw [q, Bool.true_and] at hsucc
        have hb : (wP s.2.2[j]).any (bgT set) = false := by
          cases z : (wP s.2.2[j]).any (bgT set) with
          | false => rfl
          | true =>
            have := List.any_eq_true.mpr ⟨s.2.2[j], List.getElem_mem hj, show bgW set s.2.2[j] = true by unfold bgW; rw [q, z]; rfl⟩
            rw [hsm] at this; cases this
        obtain ⟨M1, e1, r1, o1⟩ := happens_ok (show j < 8 by omega) hw hset hb rj hM0
        rw [e1, Option.bind_some]
        dsimp only
        rw [nI_add]
        obtain ⟨M', e3, r3, o3, o4⟩ := ih (j + 1) (acc + one (evB set s.2.2[j])) M1 (by omega) (by omega) (by
          rw [← evS_succ hj, he]
          exact hR.setW oks (by omega) r1 (fun i q1 q2 q3 => o1.2.2 i q2 q3)) (by rw [hsucc, hacc])
        exact ⟨M', e3, r3, fun c hc => by rw [o3 c hc, o1.1 c hc], fun i hi => by rw [o4 i hi, o1.2.1 i hi]⟩
    · have : j = s.2.2.length := by omega
      subst this
      rw [if_neg (fun q => hj ((nlt (by omega) (by omega)).mp q)), mrd_n (by omega) (by omega), Option.bind_some, hM0, nI_add, mst_n (by omega) (by omega), Option.bind_some, mrd_n (by omega) (by omega), Option.bind_some, mwr_in _ (by omega), hM0, nI_add, mst_n (by omega) (by omega), Option.bind_some, hacc]
      exact ⟨M, rfl, hR, fun _ _ => rfl, fun _ _ => rfl⟩
/-- the state after an event -/
def evF (set : Nat) (s : Sta) : Sta := (s.1, s.2.1 ++ [set], s.2.2.map (evW set (nI s.2.1.length)))
theorem evF_ok {set : Nat} {s : Sta} (hs : okS s) (hset : set < 64) (hl : s.2.1.length < 40) : okS (evF set s) := by
  have h := evS_ok (set := set) hs s.2.2.length
  unfold evS at h
  rw [pW_all] at h
  refine ⟨by show (s.2.1 ++ [set]).length ≤ 40; rw [List.length_append]; simp; omega, fun e he => ?_, h.2.2.1, h.2.2.2⟩
  rcases List.mem_append.mp he with he | he
  · exact hs.2.1 e he
  · rw [List.mem_singleton.mp he]; exact hset
theorem s_event (x : Int32) : stp Rel (f_X6_event x) (f_X7_event x) := by
  refine stp_of (fun MC MM a hA hC hM => ?_)
  have hC0 := hC
  obtain ⟨cn, cs, ch, tb, hC⟩ := hC
  obtain ⟨⟨c1, c2, c3, c4, c5, c6, c7, c8, c9⟩, r0, r1, r2, r3, r4, r5, r6, r7⟩ := id hC
  obtain ⟨m1, m2, m3, m4, m5, m6, m7⟩ := id hM
  have gs := isSc_ge c5.1
  have hns := isSc_far c4.1 c5.1 c7
  have h40 := hA.1.1
  unfold f_X6_event f_X6_event_10 f_X7_event f_X7_event_45
  rcases in_ok x (n := 64) (by omega) MM with ⟨set, hset, rfl, e⟩ | ⟨hno, e⟩
  · have e' : f_X7_in (nI set) (nI 0) (nI 63) MM = some (bI true, MM) := e
    rw [e', Option.bind_some]
    dsimp only
    rw [if_neg (neg_n (by omega)), if_pos ((nlt (by omega) (by omega)).mpr hset), if_neg (show ¬ bI true = nI 0 by decide), c1, mlS_ok c4.1, Option.bind_some, r1.1, mrd_n (by omega) (by omega), Option.bind_some, m1.2.1, mrd_n (by omega) (by omega), Option.bind_some, m1.1, Option.bind_some, r1.2.1]
    simp only [bI_0', bI_1]
    cases hend : a.1.1 with
    | true =>
      rw [if_neg (by decide), if_pos rfl]
      exact same_of hA hC0 hM _
    | false =>
      rw [if_pos rfl, if_neg (show ¬ (false = true) by decide)]
      by_cases hl : a.1.2.1.length < 40
      · rw [if_pos ((nlt (by omega) (by omega)).mpr hl), if_neg (fun z => by have := (neq (by omega) (by omega)).mp z; omega), c2, mlS_ok c5.1, Option.bind_some, Option.bind_some]
        obtain ⟨M1, e1, s1, o1⟩ := scopy_ok hA.1 (cs := cn) (cd := cs) (by omega) r1
        rw [e1, Option.bind_some]
        dsimp only
        obtain ⟨T1, t1, u1⟩ := tooGreat_ok hA.1 hset m1
        rw [t1, Option.bind_some]
        simp only [bI_0']
        have gn := isSc_ge c4.1
        obtain ⟨M2, tb2, f2, o2, g⟩ := cev_59 hA.1 hset c4.1 gs.1 hns fuelN 0 0 M1 tb (Nat.zero_le _) (by have := hA.1.2.2.1; unfold fuelN; omega) (r0.congr (fun c _ _ => o1 c (by omega))) (by rw [o1 0 (by omega)]; exact c1) (r1.congr hA.1 (fun d p q => o1 d (by omega))) (by unfold evS; rw [pW_zero]; exact s1) rfl (by rw [List.take_zero]; rfl)
        have o12 : ∀ c, c = 0 ∨ (16 ≤ c ∧ c ≠ 18 ∧ (c < cs ∨ cs + 27 ≤ c)) → M2 c = MC c := fun c hc => by rw [o2 c hc, o1 c (by omega)]
        rcases g with ⟨g1, g2⟩ | ⟨g1, g2, g3⟩
        · rw [g1, g2, if_neg (by decide)]
          refine ⟨_, _, _, a, rfl, rfl, hA, ?_, hM.fw u1⟩
          refine ⟨cn, cs, ch, tb2, ⟨by rw [o12 0 (by omega)]; exact c1, by rw [o12 0 (by omega)]; exact c2, fun i hi => by rw [o12 28 (by omega)]; exact c3 i hi, c4, c5, c6, c7, c8, c9⟩, f2, r1.congr hA.1 (fun d p q => o12 d (by omega)), fun i hi => ?_, fun s hs => ?_, by rw [o12 0 (by omega)]; exact r4, by rw [o12 0 (by omega)]; exact r5, by rw [o12 22 (by omega)]; exact r6, fun i hi => by rw [o12 23 (by omega)]; exact r7 i hi⟩
          · have hi4 := hA.2.1
            have hfar := isSc_far (c6 i (by omega)).1 c5.1 (c8 i (by omega)).2
            have hge := isSc_ge (c6 i (by omega)).1
            exact (r2 i hi).congr (hA.2.2.1 _ (List.getElem_mem hi)) (fun d p q => o12 d (by omega))
          · have hfar := isSc_far (Or.inl rfl : isSc 29) c5.1 (fun z => c5.2 z.symm)
            exact (r3 s hs).congr (hA.2.2.2.1 s hs) (fun d p q => o12 d (by omega))
        · rw [g1, if_pos rfl, g3]
          unfold evFin
          have oka := evF_ok hA.1 hset hl
          obtain ⟨b0, b1, b2, b3, b4⟩ := id g2
          have b1' : M2 cs 1 = nI a.1.2.1.length := b1
          rw [b1', mst_n hl (by omega), Option.bind_some, mwr_off _ _ _ (show cs ≠ cs + 1 by omega), b1', nI_add, mpi_n, Option.bind_some]
          have sF : RC (mwr (mwr M2 (cs + 1) a.1.2.1.length (nI set)) cs 1 (nI (a.1.2.1.length + 1))) cs (evF set a.1) := by
            refine ⟨by rw [mwr_in _ (by omega), mwr_off _ _ _ (by omega)]; exact b0, ?_, ?_, fun i hi => ?_, fun k hk => ?_⟩
            · rw [mwr_at]
              show nI (a.1.2.1.length + 1) = nI (a.1.2.1 ++ [set]).length
              rw [List.length_append]; rfl
            · rw [mwr_in _ (by omega), mwr_off _ _ _ (by omega)]
              show M2 cs 2 = nI (a.1.2.2.map (evW set (nI a.1.2.1.length))).length
              rw [← pW_all]
              exact b2
            · have hi2 : i < (a.1.2.1 ++ [set]).length := hi
              suffices fin : mwr (mwr M2 (cs + 1) a.1.2.1.length (nI set)) cs 1 (nI (a.1.2.1.length + 1)) (cs + 1) i = nI ((a.1.2.1 ++ [set])[i]'hi2) from fin
              rw [mwr_off _ _ _ (by omega)]
              rw [List.length_append, List.length_singleton] at hi2
              by_cases z : i = a.1.2.1.length
              · subst z
                rw [mwr_at, List.getElem_concat_length (by rfl)]
              · rw [mwr_in _ z, List.getElem_append_left (by omega)]
                exact b3 i (by show i < a.1.2.1.length; omega)
            · have hk2 : k < (a.1.2.2.map (evW set (nI a.1.2.1.length))).length := hk
              suffices fin : RCw (mwr (mwr M2 (cs + 1) a.1.2.1.length (nI set)) cs 1 (nI (a.1.2.1.length + 1))) (cs + 3 + 3 * k) ((a.1.2.2.map (evW set (nI a.1.2.1.length)))[k]'hk2) from fin
              have hk3 : k < (pW (evW set (nI a.1.2.1.length)) a.1.2.2 a.1.2.2.length).length := by rw [pW_all]; exact hk2
              have hb4 : RCw M2 (cs + 3 + 3 * k) ((pW (evW set (nI a.1.2.1.length)) a.1.2.2 a.1.2.2.length)[k]'hk3) := b4 k hk3
              simp only [pW_all] at hb4
              exact hb4.congr (by rw [mwr_ne _ _ _ (by omega), mwr_ne _ _ _ (by omega)]) (by rw [mwr_ne _ _ _ (by omega), mwr_ne _ _ _ (by omega)]) (by rw [mwr_ne _ _ _ (by omega), mwr_ne _ _ _ (by omega)])
          obtain ⟨M3, cs', ch', e3, R3, o3⟩ := act_ok hC hA (M' := mwr (mwr M2 (cs + 1) a.1.2.1.length (nI set)) cs 1 (nI (a.1.2.1.length + 1))) (fun c hc => by rw [mwr_ne _ _ _ (by omega), mwr_ne _ _ _ (by omega), o12 c (by omega)]) (by rw [mwr_ne _ _ _ (by omega), mwr_ne _ _ _ (by omega), o12 22 (by omega)]) (f2.congr (fun c _ _ => by rw [mwr_ne _ _ _ (by omega), mwr_ne _ _ _ (by omega)])) oka sF
          rw [e3, Option.bind_some]
          have hMu := hM.fw u1
          obtain ⟨n1, n2, n3, n4, n5, n6, n7⟩ := id hMu
          obtain ⟨M4, e4, h1, h2, h3, h4⟩ := record_ok hA.1 hA.2.2.1 hA.2.1 n4 n1 n2
          rw [e4, Option.bind_some]
          dsimp only
          obtain ⟨M5, e5, p1, p2, p3⟩ := mev_56 hA.1 hset hl g1 fuelN 0 0 M4 (Nat.zero_le _) (by have := hA.1.2.2.1; unfold fuelN; omega) (by
            unfold evS
            rw [pW_zero, h3 219 (by omega) (by omega)]
            exact n1) rfl
          rw [e5]
          unfold evFinM
          refine ⟨_, _, _, _, rfl, rfl, okA_act hA oka, ⟨cs, cs', ch', tb2, R3⟩, RelM_act hA hMu ⟨h1, h2, h3, h4⟩ (fun c hc => by rw [mwr_ne _ _ _ (by omega), mwr_ne _ _ _ (by omega), p2 c (by omega)]) (fun i hi => by rw [mwr_off _ _ _ (by omega), mwr_off _ _ _ (by omega), p3 i (by omega)]) ?_⟩
          obtain ⟨b0, b1, b2, b3, b4⟩ := p1
          have hlf : (evF set a.1).2.1 = a.1.2.1 ++ [set] := rfl
          refine ⟨?_, ?_, ?_, fun i hi => ?_, fun k hk => ?_⟩
          · rw [mwr_at, hlf, List.length_append]; rfl
          · rw [mwr_in _ (by omega), mwr_in _ (by omega)]; exact b1
          · rw [mwr_in _ (by omega), mwr_in _ (by omega)]
            show M5 219 2 = nI (a.1.2.2.map (evW set (nI a.1.2.1.length))).length
            rw [← pW_all]
            exact b2
          · have hi2 : i < (a.1.2.1 ++ [set]).length := hi
            suffices fin : mwr (mwr M5 219 (4 + a.1.2.1.length) (nI set)) 219 0 (nI (a.1.2.1.length + 1)) 219 (4 + i) = nI ((a.1.2.1 ++ [set])[i]'hi2) from fin
            rw [mwr_in _ (by omega)]
            rw [List.length_append, List.length_singleton] at hi2
            by_cases z : i = a.1.2.1.length
            · subst z
              rw [mwr_at, List.getElem_concat_length (by rfl)]
            · rw [mwr_in _ (by omega), List.getElem_append_left (by omega)]
              exact b3 i (by show i < a.1.2.1.length; omega)
          · have hk2 : k < (a.1.2.2.map (evW set (nI a.1.2.1.length))).length := hk
            have hk8 : k < 8 := by rw [List.length_map] at hk2; have := hA.1.2.2.1; omega
            suffices fin : RMw (mwr (mwr M5 219 (4 + a.1.2.1.length) (nI set)) 219 0 (nI (a.1.2.1.length + 1)) 219) k ((a.1.2.2.map (evW set (nI a.1.2.1.length)))[k]'hk2) from fin
            have hk3 : k < (pW (evW set (nI a.1.2.1.length)) a.1.2.2 a.1.2.2.length).length := by rw [pW_all]; exact hk2
            have hb4 : RMw (M5 219) k ((pW (evW set (nI a.1.2.1.length)) a.1.2.2 a.1.2.2.length)[k]'hk3) := b4 k hk3
            simp only [pW_all] at hb4
            have := bw_pos k 0
            exact hb4.congr hk8 (oka.2.2.2 _ (List.getElem_mem hk2)) (fun j hj => by rw [mwr_in _ (by omega), mwr_in _ (by omega)]) (fun i q1 q2 => by rw [mwr_in _ (by omega), mwr_in _ (by omega)])
      · have hl2 : a.1.2.1.length = 40 := by omega
        rw [hl2, if_neg (by decide), if_pos rfl]
        exact same_of hA hC0 hM _
  · have e' : f_X7_in x (nI 0) (nI 63) MM = some (bI false, MM) := e
    rw [e', Option.bind_some]
    dsimp only
    rw [bI_f, if_pos rfl]
    rcases neg_lt (x := x) (n := 64) (by omega) with q | ⟨q1, q2⟩ | ⟨k, hk, rfl⟩
    · rw [if_pos (show x < nI 0 from q)]
      exact same_of hA hC0 hM _
    · rw [if_neg q1, if_neg q2]
      exact same_of hA hC0 hM _
    · exact absurd rfl (hno k hk)
