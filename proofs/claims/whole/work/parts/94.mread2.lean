/-! the model: reading, character by character -/
def st : List Nat → Bool → Nat → Nat → Prop
  | [], _, n, d => n = 0 ∧ d = 0
  | w :: W, p, n, d => (p = true ∧ isF w = true ∧ st W true n d) ∨ (0 < bnd w ∧ 0 < n ∧ st W false (n - 1) d) ∨ (w = 40 ∧ 0 < d ∧ st W true n (d - 1))
/-- what is due, by the two stacks -/
def INV (due : Bool) (d : Nat) (V : List T) (W : List Nat) : Prop := if due = true then st W true V.length d else 0 < V.length ∧ st W false (V.length - 1) d
theorem mapp_0 {b : Nat} (hb : b ≤ 60) {d : Nat} : ∀ (n : Nat) (V : List T) (W : List Nat) (D tb : List T) (M : Mem), W.length < n → 0 < V.length → st W true (V.length - 1) d → RDm M tb V W → BG D tb V W b → ∃ (M' : Mem) (tb' D' : List T), f_X7_applyAhead_0 n M = some (nI 0, M') ∧ RDm M' tb' (appF V W).1 (appF V W).2 ∧ BG D' tb' (appF V W).1 (appF V W).2 b ∧ INV false d (appF V W).1 (appF V W).2 ∧ FRm M M' := by
  intro n
  induction n with
  | zero => intro V W D tb M h; omega
  | succ n ih =>
    intro V W D tb M hn hV hst hR hB
    have hR0 := hR
    have hwl := W_len hB
    obtain ⟨f, a6, a7, sv, sw⟩ := hR
    rw [f_X7_applyAhead_0, a7]
    unfold f_X7_applyAhead_31
    match V, W, hn, hV, hst, hR0, hB, sw, hwl with
    | V, [], hn, hV, hst, hR0, hB, sw, hwl =>
      rw [List.length_nil, if_neg (by decide)]
      have e : appF V [] = (V, []) := by cases V <;> rfl
      rw [e]
      exact ⟨M, tb, D, rfl, hR0, hB, ⟨hV, hst⟩, FRm.rfl' M⟩
    | v :: V, w :: W, hn, hV, hst, hR0, hB, ⟨⟨w1, w2⟩, sw⟩, hwl =>
      simp only [List.length_cons] at hn hst hwl
      rw [List.length_cons, if_pos ((nlt (by omega) (by omega)).mpr (by omega)), nsub (by omega), Nat.add_sub_cancel, mrd_n (by omega) (by omega), Option.bind_some, w2, isAheadSign_ok w1, Option.bind_some]
      dsimp only
      by_cases hw : isF w = true
      · have e : appF (v :: V) (w :: W) = appF (unT w v :: V) W := if_pos hw
        rw [hw, if_neg (by decide), e]
        obtain ⟨M1, tb1, D1, e1, r1, g1, o1⟩ := apply_un hb hR0 hB hw
        rw [e1, Option.bind_some]
        have hst2 : st W true ((unT w v :: V).length - 1) d := by
          rcases hst with ⟨-, -, h⟩ | ⟨h, -⟩ | ⟨h, -⟩
          · exact h
          · have := (bnd_isF h).1
            rw [hw] at this; cases this
          · rw [h] at hw; cases hw
        obtain ⟨M', tb', D', e2, r2, g2, i2, o2⟩ := ih (unT w v :: V) W D1 tb1 M1 (by omega) (by simp) hst2 r1 g1
        exact ⟨M', tb', D', e2, r2, g2, i2, o1.tr o2⟩
      · have e : appF (v :: V) (w :: W) = (v :: V, w :: W) := if_neg hw
        have hw' : isF w = false := by simpa using hw
        rw [hw', bI_f, if_pos rfl, e]
        refine ⟨M, tb, D, rfl, hR0, hB, ⟨hV, ?_⟩, FRm.rfl' M⟩
        rcases hst with ⟨-, h, -⟩ | h | h
        · exact absurd h hw
        · exact Or.inr (Or.inl h)
        · exact Or.inr (Or.inr h)
/-- all signs between down to a bracket -/
theorem mro_63 {b : Nat} (hb : b ≤ 60) : ∀ (n : Nat) (V : List T) (W : List Nat) (D tb : List T) (M : Mem) (d : Nat), W.length < n → 0 < d → 0 < V.length → st W false (V.length - 1) d → RDm M tb V W → BG D tb V W b → ∃ (M' : Mem) (tb' D' : List T), f_X7_readOne_63 n M = some (nI 0, M') ∧ RDm M' tb' (appF (cmb 1 V W).1 (cmb 1 V W).2.tail).1 (appF (cmb 1 V W).1 (cmb 1 V W).2.tail).2 ∧ BG D' tb' (appF (cmb 1 V W).1 (cmb 1 V W).2.tail).1 (appF (cmb 1 V W).1 (cmb 1 V W).2.tail).2 b ∧ INV false (d - 1) (appF (cmb 1 V W).1 (cmb 1 V W).2.tail).1 (appF (cmb 1 V W).1 (cmb 1 V W).2.tail).2 ∧ FRm M M' := by
  intro n
  induction n with
  | zero => intro V W D tb M d h; omega
  | succ n ih =>
    intro V W D tb M d hn hd hV hst hR hB
    have hR0 := hR
    have hwl := W_len hB
    obtain ⟨f, a6, a7, sv, sw⟩ := hR
    match V, W, hn, hV, hst, hR0, hB, sw, hwl with
    | V, [], hn, hV, hst, hR0, hB, sw, hwl => have := hst.2; omega
    | v :: V, w :: W, hn, hV, hst, hR0, hB, ⟨⟨w1, w2⟩, sw⟩, hwl =>
      simp only [List.length_cons] at hn hst hwl a7 a6
      rw [f_X7_readOne_63, a7, nsub (by omega), Nat.add_sub_cancel, mrd_n (by omega) (by omega), Option.bind_some, w2]
      rcases hst with ⟨h, -⟩ | ⟨hw, h1, h2⟩ | ⟨hw, h1, h2⟩
      · cases h
      · obtain ⟨-, -, hw40, -, -⟩ := bnd_isF hw
        rw [if_neg (fun q => hw40 ((neq (by omega) (by omega)).mp q))]
        match V, h1, h2, hR0, hB with
        | u :: V, h1, h2, hR0, hB =>
          have e : cmb 1 (v :: u :: V) (w :: W) = cmb 1 (biT w u v :: V) W := if_neg (by omega)
          rw [e]
          obtain ⟨M1, tb1, D1, e1, r1, g1, o1⟩ := apply_bi hb hR0 hB hw
          rw [e1, Option.bind_some]
          obtain ⟨M', tb', D', e2, r2, g2, i2, o2⟩ := ih (biT w u v :: V) W D1 tb1 M1 d (by omega) hd (by simp) (by simpa using h2) r1 g1
          exact ⟨M', tb', D', e2, r2, g2, i2, o1.tr o2⟩
        | [], h1, _, _, _ => simp at h1
      · subst hw
        rw [if_pos rfl, mpi_n, Option.bind_some]
        have e : cmb 1 (v :: V) (40 :: W) = (v :: V, 40 :: W) := by
          cases V with
          | nil => rfl
          | cons u V => exact if_pos (by decide)
        rw [e]
        obtain ⟨b1, b2, b3, b4, b5⟩ := hB
        unfold f_X7_applyAhead
        have hR1 : RDm (mwr M 218 19 (nI W.length)) tb (v :: V) W := ⟨f.congr (fun c _ _ => mwr_ne _ _ _ (by omega)) (mwr_ne _ _ _ (by omega)) (mwr_in _ (by omega)) (mwr_in _ (by omega)), by rw [mwr_in _ (by omega)]; exact a6, mwr_at _ _ _ _, sv.mv0 (fun i _ => by rw [mwr_off _ _ _ (by omega)]), sw.mv (fun i _ => by rw [mwr_off _ _ _ (by omega)])⟩
        simp only [List.length_cons] at b2 b4
        obtain ⟨M', tb', D', e2, r2, g2, i2, o2⟩ := mapp_0 hb (d := d - 1) fuelN (v :: V) W D tb _ (by unfold fuelN; omega) (by simp) (by simpa using h2) hR1 ⟨b1, by omega, b3, by omega, b5⟩
        rw [e2, Option.bind_some]
        exact ⟨M', tb', D', rfl, r2, g2, i2, FRm.tr ⟨fun c hc => mwr_ne _ _ _ (by omega), fun i hi => mwr_in _ (by omega)⟩ o2⟩
theorem mpush {b c : Nat} {M : Mem} {D tb V : List T} {W : List Nat} (hb : b ≤ 59) (hc : c < 65536) (hR : RDm M tb V W) (hB : BG D tb V W b) : ∃ M', f_X7_readOne_172 (nI c) M = some (nI 0, M') ∧ RDm M' tb V (c :: W) ∧ BG D tb V (c :: W) (b + 1) ∧ FRm M M' := by
  obtain ⟨f, a6, a7, sv, sw⟩ := hR
  obtain ⟨b1, b2, b3, b4, b5⟩ := hB
  unfold f_X7_readOne_172
  have q7 : mwr M 232 W.length (nI c) 218 19 = nI W.length := by rw [mwr_off _ _ _ (by omega)]; exact a7
  rw [a7, nc_n hc, mst_n (by omega) (by omega), Option.bind_some, q7, nI_add, mpi_n, Option.bind_some]
  refine ⟨_, rfl, ⟨f.congr (fun c _ _ => by rw [mwr_ne _ _ _ (by omega), mwr_ne _ _ _ (by omega)]) (by rw [mwr_ne _ _ _ (by omega), mwr_ne _ _ _ (by omega)]) (by rw [mwr_in _ (by omega), mwr_off _ _ _ (by omega)]) (by rw [mwr_in _ (by omega), mwr_off _ _ _ (by omega)]), ?_, ?_, sv.mv0 (fun i hi => ?_), ⟨⟨hc, ?_⟩, sw.mv (fun i hi => ?_)⟩⟩, ⟨b1, by simp only [List.length_cons]; omega, by omega, by simp only [List.length_cons]; omega, b5⟩, fun c hc => ?_, fun i hi => ?_⟩
  · rw [mwr_in _ (by omega), mwr_off _ _ _ (by omega)]; exact a6
  · rw [mwr_at]; rfl
  · rw [mwr_off _ _ _ (by omega), mwr_off _ _ _ (by omega)]
  · rw [mwr_off _ _ _ (by omega), mwr_at]
  · rw [mwr_off _ _ _ (by omega), mwr_in _ (by omega)]
  · rw [mwr_ne _ _ _ (by omega), mwr_ne _ _ _ (by omega)]
  · rw [mwr_in _ (by omega), mwr_off _ _ _ (by omega)]
/-- a sign between: those that bind more go first -/
theorem mro_101 {b c : Nat} (hb : b ≤ 59) (hc : c < 65536) (hz : 0 < bnd c) : ∀ (n : Nat) (V : List T) (W : List Nat) (D tb : List T) (M : Mem) (d : Nat), W.length < n → 0 < V.length → st W false (V.length - 1) d → RDm M tb V W → BG D tb V W b → ∃ (M' : Mem) (tb' D' : List T), f_X7_readOne_101 n (nI c) M = some (nI 0, M') ∧ RDm M' tb' (cmb (lst c) V W).1 (c :: (cmb (lst c) V W).2) ∧ BG D' tb' (cmb (lst c) V W).1 (c :: (cmb (lst c) V W).2) (b + 1) ∧ INV true d (cmb (lst c) V W).1 (c :: (cmb (lst c) V W).2) ∧ FRm M M' := by
  have hbc := bnd_lt c
  have hlst : lst c = if bnd c = 3 then 4 else bnd c := by
    have := (bnd_isF hz).2.2.2.2
    rcases this with rfl | rfl | rfl | rfl <;> rfl
  intro n
  induction n with
  | zero => intro V W D tb M d h; omega
  | succ n ih =>
    intro V W D tb M d hn hV hst hR hB
    have hR0 := hR
    have hwl := W_len hB
    obtain ⟨f, a6, a7, sv, sw⟩ := hR
    rw [f_X7_readOne_101, rank_ok hc, Option.bind_some]
    unfold f_X7_readOne_165
    dsimp only
    rw [if_pos ((nlt (by omega) (by omega)).mpr hz)]
    have stop : cmb (lst c) V W = (V, W) → ∃ (M' : Mem) (tb' D' : List T), f_X7_readOne_172 (nI c) M = some (nI 0, M') ∧ RDm M' tb' (cmb (lst c) V W).1 (c :: (cmb (lst c) V W).2) ∧ BG D' tb' (cmb (lst c) V W).1 (c :: (cmb (lst c) V W).2) (b + 1) ∧ INV true d (cmb (lst c) V W).1 (c :: (cmb (lst c) V W).2) ∧ FRm M M' := fun e => by
      rw [e]
      obtain ⟨M', e1, r1, g1, o1⟩ := mpush hb hc hR0 hB
      exact ⟨M', tb, D, e1, r1, g1, Or.inr (Or.inl ⟨hz, hV, hst⟩), o1⟩
    match V, W, hn, hV, hst, hR0, hB, sw, hwl, stop, a7 with
    | V, [], hn, hV, hst, hR0, hB, sw, hwl, stop, a7 =>
      simp only [a7, List.length_nil]
      rw [if_neg (by decide)]
      exact stop (by match V with | [] => rfl | [_] => rfl | _ :: _ :: _ => rfl)
    | v :: V, w :: W, hn, hV, hst, hR0, hB, ⟨⟨w1, w2⟩, sw⟩, hwl, stop, a7 =>
      simp only [List.length_cons] at hn hst hwl a7
      have hbw := bnd_lt w
      simp only [a7]
      rw [if_pos ((nlt (by omega) (by omega)).mpr (by omega)), nsub (by omega), Nat.add_sub_cancel, mrd_n (by omega) (by omega), Option.bind_some, w2, rank_ok w1, Option.bind_some, rank_ok hc, Option.bind_some]
      dsimp only
      have goOn : lst c ≤ bnd w → ∃ (M' : Mem) (tb' D' : List T), ((f_X7_apply M).bind fun q1 => f_X7_readOne_101 n (nI c) q1.2) = some (nI 0, M') ∧ RDm M' tb' (cmb (lst c) (v :: V) (w :: W)).1 (c :: (cmb (lst c) (v :: V) (w :: W)).2) ∧ BG D' tb' (cmb (lst c) (v :: V) (w :: W)).1 (c :: (cmb (lst c) (v :: V) (w :: W)).2) (b + 1) ∧ INV true d (cmb (lst c) (v :: V) (w :: W)).1 (c :: (cmb (lst c) (v :: V) (w :: W)).2) ∧ FRm M M' := fun hle => by
        have hl1 : 0 < lst c := by rw [hlst]; split <;> omega
        rcases hst with ⟨h, -⟩ | ⟨hw, h1, h2⟩ | ⟨hw, h1, h2⟩
        · cases h
        · match V, h1, h2, hR0, hB with
          | u :: V, h1, h2, hR0, hB =>
            have e : cmb (lst c) (v :: u :: V) (w :: W) = cmb (lst c) (biT w u v :: V) W := if_neg (by omega)
            rw [e]
            obtain ⟨M1, tb1, D1, e1, r1, g1, o1⟩ := apply_bi (by omega) hR0 hB hw
            rw [e1, Option.bind_some]
            obtain ⟨M', tb', D', e2, r2, g2, i2, o2⟩ := ih (biT w u v :: V) W D1 tb1 M1 d (by omega) (by simp) (by simpa using h2) r1 g1
            exact ⟨M', tb', D', e2, r2, g2, i2, o1.tr o2⟩
          | [], h1, _, _, _ => simp at h1
        · rw [hw] at hle
          have : bnd 40 = 0 := by decide
          omega
      have stop2 : bnd w < lst c → _ := fun hlt => stop (by
        cases V with
        | nil => rfl
        | cons u V => exact if_pos hlt)
      by_cases q1 : bnd c < bnd w
      · rw [if_pos ((nlt (by omega) (by omega)).mpr q1)]
        exact goOn (by rw [hlst]; split <;> omega)
      · rw [if_neg (fun q => q1 ((nlt (by omega) (by omega)).mp q))]
        simp only [a7]
        rw [nsub (by omega), Nat.add_sub_cancel, mrd_n (by omega) (by omega), Option.bind_some, w2, rank_ok w1, Option.bind_some, rank_ok hc, Option.bind_some]
        dsimp only
        by_cases q2 : bnd w = bnd c
        · rw [if_pos (by rw [q2]), rank_ok hc, Option.bind_some]
          dsimp only
          by_cases q3 : bnd c < 3
          · rw [if_pos ((nlt (by omega) (by omega)).mpr q3)]
            exact goOn (by rw [hlst, if_neg (by omega)]; omega)
          · rw [if_neg (fun q => q3 ((nlt (by omega) (by omega)).mp q))]
            exact stop2 (by rw [hlst, if_pos (by omega)]; omega)
        · rw [if_neg (fun q => q2 ((neq (by omega) (by omega)).mp q))]
          exact stop2 (by rw [hlst]; split <;> omega)
theorem mhold {b id : Nat} {M : Mem} {D tb V : List T} {W : List Nat} {v : T} (hb : b ≤ 59) (hid : id < 16) (hv : lf id = v) (hR : RDm M tb V W) (hB : BG D tb V W b) {d : Nat} (hst : st W true V.length d) : ∃ (M' : Mem) (tb' D' : List T), f_X7_readOne_41 (nI id) (nI V.length) M = some (nI 0, M') ∧ RDm M' tb' (appF (v :: V) W).1 (appF (v :: V) W).2 ∧ BG D' tb' (appF (v :: V) W).1 (appF (v :: V) W).2 (b + 1) ∧ INV false d (appF (v :: V) W).1 (appF (v :: V) W).2 ∧ FRm M M' := by
  subst hv
  obtain ⟨f, a6, a7, sv, sw⟩ := hR
  have hwl := W_len hB
  obtain ⟨b1, b2, b3, b4, b5⟩ := hB
  have hl := sum_len_MW V
  unfold f_X7_readOne_41 f_X7_applyAhead
  have q6 : mwr M 231 V.length (nI id) 218 18 = nI V.length := by rw [mwr_off _ _ _ (by omega)]; exact a6
  rw [mst_n (by omega) (by omega), Option.bind_some, q6, nI_add, mpi_n, Option.bind_some]
  obtain ⟨M', tb', D', e2, r2, g2, i2, o2⟩ := mapp_0 (b := b + 1) (by omega) (d := d) fuelN (lf id :: V) W D tb (mwr (mwr M 231 V.length (nI id)) 218 18 (nI (V.length + 1))) (by unfold fuelN; omega) (by simp) (by simpa using hst) ⟨f.congr (fun c _ _ => by rw [mwr_ne _ _ _ (by omega), mwr_ne _ _ _ (by omega)]) (by rw [mwr_ne _ _ _ (by omega), mwr_ne _ _ _ (by omega)]) (by rw [mwr_in _ (by omega), mwr_off _ _ _ (by omega)]) (by rw [mwr_in _ (by omega), mwr_off _ _ _ (by omega)]), by rw [mwr_at]; rfl, by rw [mwr_in _ (by omega), mwr_off _ _ _ (by omega)]; exact a7, ⟨⟨id, by omega, by rw [mwr_off _ _ _ (by omega), mwr_at], dn_lf hid⟩, sv.mv0 (fun i hi => by rw [mwr_off _ _ _ (by omega), mwr_in _ (by omega)])⟩, sw.mv (fun i hi => by rw [mwr_off _ _ _ (by omega), mwr_off _ _ _ (by omega)])⟩ ⟨b1, by omega, by simp only [List.map_cons, List.sum_cons, MW_lf id hid]; omega, by simp only [List.map_cons, List.sum_cons, size_lf]; omega, VN_cons.mpr ⟨⟨AR_lf hid, NF_lf id hid⟩, b5⟩⟩
  rw [e2, Option.bind_some]
  exact ⟨M', tb', D', rfl, r2, g2, i2, FRm.tr ⟨fun c hc => by rw [mwr_ne _ _ _ (by omega), mwr_ne _ _ _ (by omega)], fun i hi => by rw [mwr_in _ (by omega), mwr_off _ _ _ (by omega)]⟩ o2⟩
/-- one character that is allowed -/
theorem mread1 {b c d : Nat} {due : Bool} {M : Mem} {D tb V : List T} {W : List Nat} (hb : b ≤ 59) (hc : c < 65536) (hR : RDm M tb V W) (hB : BG D tb V W b) (hI : INV due d V W) {cs : List Nat} {i : Nat} (hok : flt (c :: cs) due d i = none) :
    ∃ (due' : Bool) (d' : Nat) (M' : Mem) (tb' D' : List T), f_X7_readOne (nI c) M = some (nI 0, M') ∧ RDm M' tb' (rd1 c V W).1 (rd1 c V W).2 ∧ BG D' tb' (rd1 c V W).1 (rd1 c V W).2 (b + 1) ∧ INV due' d' (rd1 c V W).1 (rd1 c V W).2 ∧ flt cs due' d' (i + 1) = none ∧ FRm M M' := by
  have hwl := W_len hB
  have hvl := V_len hB
  have hfu : W.length < fuelN := by unfold fuelN; omega
  unfold f_X7_readOne
  rw [isThing_ok hc, Option.bind_some]
  dsimp only
  -- a sign that only waits
  have push : isV c = false → c ≠ 41 → bnd c = 0 → ∀ (d' : Nat), INV true d' V (c :: W) → flt cs true d' (i + 1) = none → ∃ (due' : Bool) (d' : Nat) (M' : Mem) (tb' D' : List T), f_X7_readOne_101 fuelN (nI c) M = some (nI 0, M') ∧ RDm M' tb' (rd1 c V W).1 (rd1 c V W).2 ∧ BG D' tb' (rd1 c V W).1 (rd1 c V W).2 (b + 1) ∧ INV due' d' (rd1 c V W).1 (rd1 c V W).2 ∧ flt cs due' d' (i + 1) = none ∧ FRm M M' := by
    intro hv h41 hz d' hI2 hf2
    have e : rd1 c V W = (V, c :: W) := by
      unfold rd1
      rw [if_neg (by rw [hv]; decide), if_neg h41, if_neg (by omega)]
    rw [e]
    obtain ⟨M', e1, r1, g1, o1⟩ := mpush hb hc hR hB
    refine ⟨true, d', M', tb, D, ?_, r1, g1, hI2, hf2, o1⟩
    unfold fuelN
    rw [f_X7_readOne_101, rank_ok hc, Option.bind_some]
    dsimp only
    rw [hz, if_neg (by decide), e1]
  cases due with
  | true =>
    have hI' : st W true V.length d := hI
    unfold flt at hok
    by_cases q : c = 40 ∧ d < 4
    · rw [if_pos q] at hok
      obtain ⟨rfl, q2⟩ := q
      have hv : isV 40 = false := by decide
      rw [hv, bI_f, if_pos rfl, if_neg (by decide)]
      exact push hv (by omega) (by decide) (d + 1) (Or.inr (Or.inr ⟨rfl, by omega, by simpa using hI'⟩)) hok
    · rw [if_neg q] at hok
      by_cases hv : isV c = true
      · rw [if_pos hv] at hok
        have hcs := isV_cases hv
        rw [hv, if_neg (by decide)]
        have e : rd1 c V W = appF (valT c :: V) W := if_pos hv
        rw [e]
        obtain ⟨M', tb', D', e1, r1, g1, i1, o1⟩ := mhold hb (vid_lt hv) (valT_vid c).symm hR hB hI'
        refine ⟨false, d, M', tb', D', ?_, r1, g1, i1, hok, o1⟩
        rw [← e1, hR.2.1]
        unfold vid
        simp (disch := omega) only [neq]
        by_cases h1 : c = 48
        · rw [if_pos h1, if_pos h1]
        · rw [if_neg h1, if_neg h1]
          by_cases h2 : c = 49
          · rw [if_pos h2, if_pos h2]
          · rw [if_neg h2, if_neg h2, nI_add, nsub (by omega)]
            congr 2
            omega
      · have hv' : isV c = false := by simpa using hv
        rw [if_neg hv] at hok
        by_cases hf : isF c = true
        · rw [if_pos hf] at hok
          have hcs := isF_cases hf
          rw [hv', bI_f, if_pos rfl, if_neg (fun q => by have := (neq (by omega) (by omega)).mp q; omega)]
          have hz : bnd c = 0 := by
            rcases hcs with rfl | rfl | rfl | rfl | rfl <;> decide
          exact push hv' (by omega) hz d (Or.inl ⟨rfl, hf, hI'⟩) hok
        · rw [if_neg hf] at hok; cases hok
  | false =>
    obtain ⟨hV, hI'⟩ : 0 < V.length ∧ st W false (V.length - 1) d := hI
    unfold flt at hok
    by_cases q : c = 41 ∧ 0 < d
    · rw [if_pos q] at hok
      obtain ⟨rfl, q2⟩ := q
      have hv : isV 41 = false := by decide
      rw [hv, bI_f, if_pos rfl, if_pos rfl]
      have e : rd1 41 V W = appF (cmb 1 V W).1 (cmb 1 V W).2.tail := by
        unfold rd1
        rw [if_neg (by decide), if_pos rfl]
      rw [e]
      obtain ⟨M', tb', D', e1, r1, g1, i1, o1⟩ := mro_63 (by omega) fuelN V W D tb M d hfu q2 hV hI' hR hB
      exact ⟨false, d - 1, M', tb', D', e1, r1, BG_mono g1 (by omega), i1, hok, o1⟩
    · rw [if_neg q] at hok
      by_cases hz : 0 < bnd c
      · rw [if_pos hz] at hok
        obtain ⟨-, hv, -, h41, -⟩ := bnd_isF hz
        rw [hv, bI_f, if_pos rfl, if_neg (fun q => h41 ((neq (by omega) (by omega)).mp q))]
        have e : rd1 c V W = ((cmb (lst c) V W).1, c :: (cmb (lst c) V W).2) := by
          unfold rd1
          rw [if_neg (by rw [hv]; decide), if_neg h41, if_pos hz]
        rw [e]
        obtain ⟨M', tb', D', e1, r1, g1, i1, o1⟩ := mro_101 hb hc hz fuelN V W D tb M d hfu hV hI' hR hB
        exact ⟨true, d, M', tb', D', e1, r1, g1, i1, hok, o1⟩
      · rw [if_neg hz] at hok; cases hok
theorem mread_16 {L : Nat} (hL : L ≤ 60) : ∀ (cs : List Nat) (i b n : Nat) (M : Mem) (D tb V : List T) (W : List Nat) (due : Bool) (d : Nat), i + cs.length = L → b = i → cs.length < n → M 218 23 = nI L → (∀ j (h : j < cs.length), cs[j] < 65536 ∧ M 234 (i + j) = nI cs[j]) → RDm M tb V W → BG D tb V W b → INV due d V W → flt cs due d i = none →
    ∃ (M' : Mem) (tb' D' : List T), f_X7_read_16 n (nI i) M = f_X7_read_40 fuelN M' ∧ RDm M' tb' (rdA cs V W).1 (rdA cs V W).2 ∧ BG D' tb' (rdA cs V W).1 (rdA cs V W).2 L ∧ INV false 0 (rdA cs V W).1 (rdA cs V W).2 ∧ FRm M M' := by
  intro cs
  induction cs with
  | nil =>
    intro i b n M D tb V W due d h1 h2 h3 h4 h5 h6 h7 h8 h9
    have : i = L := by simpa using h1
    subst this
    subst h2
    obtain ⟨n, rfl⟩ : ∃ m, n = m + 1 := ⟨n - 1, by simp at h3; omega⟩
    unfold flt at h9
    have hdd : due = false ∧ d = 0 := by
      by_cases q : due = true ∨ 0 < d
      · rw [if_pos q] at h9; cases h9
      · cases due with
        | true => exact absurd (Or.inl rfl) q
        | false => exact ⟨rfl, by have : ¬ 0 < d := fun p => q (Or.inr p); omega⟩
    obtain ⟨rfl, rfl⟩ := hdd
    refine ⟨M, tb, D, ?_, h6, h7, h8, FRm.rfl' M⟩
    rw [f_X7_read_16, h4, if_neg (fun q => Nat.lt_irrefl _ ((nlt (by omega) (by omega)).mp q))]
  | cons c cs ih =>
    intro i b n M D tb V W due d h1 h2 h3 h4 h5 h6 h7 h8 h9
    simp only [List.length_cons] at h1 h3
    obtain ⟨n, rfl⟩ : ∃ m, n = m + 1 := ⟨n - 1, by omega⟩
    obtain ⟨hc, h50⟩ := h5 0 (by simp)
    simp only [List.getElem_cons_zero, Nat.add_zero] at hc h50
    obtain ⟨due', d', M1, tb1, D1, e1, r1, g1, i1, k1, o1⟩ := mread1 (by omega) hc h6 h7 h8 h9
    obtain ⟨M', tb', D', e2, r2, g2, i2, o2⟩ := ih (i + 1) (b + 1) n M1 D1 tb1 _ _ due' d' (by omega) (by omega) (by omega) (by rw [o1.2 23 (by omega)]; exact h4) (fun j hj => by
      have := h5 (j + 1) (by simp; omega)
      rw [o1.1 234 (by omega), show i + 1 + j = i + (j + 1) by omega]
      exact this) r1 g1 i1 k1
    refine ⟨M', tb', D', ?_, r2, g2, i2, o1.tr o2⟩
    rw [f_X7_read_16, h4, if_pos ((nlt (by omega) (by omega)).mpr (by omega)), mrd_n (by omega) (by omega), Option.bind_some, h50, e1, Option.bind_some, nI_add]
    exact e2
theorem mread_40 {b : Nat} (hb : b ≤ 60) : ∀ (n : Nat) (V : List T) (W : List Nat) (D tb : List T) (M : Mem), W.length < n → INV false 0 V W → RDm M tb V W → BG D tb V W b → ∃ (id : Nat) (M' : Mem) (tb' : List T), f_X7_read_40 n M = some (nI id, M') ∧ MT M' tb' ∧ id < 16 + tb'.length ∧ dn tb' id = ((cmb 1 V W).1.getLast?).getD (lf 0) ∧ FRm M M' := by
  intro n
  induction n with
  | zero => intro V W D tb M h; omega
  | succ n ih =>
    intro V W D tb M hn hI hR hB
    have hR0 := hR
    have hwl := W_len hB
    have hvl := V_len hB
    obtain ⟨hV, hst⟩ : 0 < V.length ∧ st W false (V.length - 1) 0 := hI
    obtain ⟨f, a6, a7, sv, sw⟩ := hR
    rw [f_X7_read_40, a7]
    match V, W, hn, hV, hst, hR0, hB, sv, sw, hwl with
    | V, [], hn, hV, hst, hR0, hB, sv, sw, hwl =>
      rw [List.length_nil, if_neg (by decide)]
      have e : cmb 1 V [] = (V, []) := by match V with | [] => rfl | [_] => rfl | _ :: _ :: _ => rfl
      rw [e]
      obtain ⟨id, i1, i2, i3, i4⟩ := SV_last sv
      rw [mrd_n (by omega) (by omega), Option.bind_some, i2 hV]
      exact ⟨id, M, tb, rfl, f, i1, i4, FRm.rfl' M⟩
    | v :: V, w :: W, hn, hV, hst, hR0, hB, sv, sw, hwl =>
      simp only [List.length_cons] at hn hst hwl
      rw [List.length_cons, if_pos ((nlt (by omega) (by omega)).mpr (by omega))]
      rcases hst with ⟨h, -⟩ | ⟨hw, h1, h2⟩ | ⟨hw, h1, h2⟩
      · cases h
      · match V, h1, h2, hR0, hB with
        | u :: V, h1, h2, hR0, hB =>
          have e : cmb 1 (v :: u :: V) (w :: W) = cmb 1 (biT w u v :: V) W := if_neg (by omega)
          rw [e]
          obtain ⟨M1, tb1, D1, e1, r1, g1, o1⟩ := apply_bi hb hR0 hB hw
          rw [e1, Option.bind_some]
          obtain ⟨id, M', tb', e2, f2, i2, d2, o2⟩ := ih (biT w u v :: V) W D1 tb1 M1 (by omega) ⟨by simp, by simpa using h2⟩ r1 g1
          exact ⟨id, M', tb', e2, f2, i2, d2, o1.tr o2⟩
        | [], h1, _, _, _ => simp at h1
      · omega
theorem mread_ok {M : Mem} {cs : List Nat} (hl : cs.length ≤ 60) (h5 : M 218 23 = nI cs.length) (ht : ∀ i (h : i < cs.length), cs[i] < 65536 ∧ M 234 i = nI cs[i]) (hok : flt cs true 0 0 = none) :
    ∃ (id : Nat) (M' : Mem) (tb' : List T), f_X7_read M = some (nI id, M') ∧ MT M' tb' ∧ id < 16 + tb'.length ∧ dn tb' id = rdT cs ∧ FRm M M' := by
  unfold f_X7_read
  obtain ⟨M0, e0, f0, o0⟩ := empty_ok M
  rw [e0, Option.bind_some, mpi_n, Option.bind_some, mpi_n, Option.bind_some]
  dsimp only
  have oo : FRm M (mwr (mwr M0 218 18 (nI 0)) 218 19 (nI 0)) := o0.frm.tr ⟨fun c hc => by rw [mwr_ne _ _ _ (by omega), mwr_ne _ _ _ (by omega)], fun i hi => by rw [mwr_in _ (by omega), mwr_in _ (by omega)]⟩
  obtain ⟨M1, tb1, D1, e1, r1, g1, i1, o1⟩ := mread_16 hl cs 0 0 fuelN (mwr (mwr M0 218 18 (nI 0)) 218 19 (nI 0)) [] [] [] [] true 0 (by omega) rfl (by unfold fuelN; omega) (by rw [oo.2 23 (by omega)]; exact h5) (fun j hj => by rw [oo.1 234 (by omega), Nat.zero_add]; exact ht j hj) ⟨f0.congr (fun c _ _ => by rw [mwr_ne _ _ _ (by omega), mwr_ne _ _ _ (by omega)]) (by rw [mwr_ne _ _ _ (by omega), mwr_ne _ _ _ (by omega)]) (by rw [mwr_in _ (by omega), mwr_in _ (by omega)]) (by rw [mwr_in _ (by omega), mwr_in _ (by omega)]), by rw [mwr_in _ (by omega), mwr_at]; rfl, by rw [mwr_at]; rfl, trivial, trivial⟩ ⟨(fun _ h => by cases h), by simp, by simp, by simp, (fun _ h => by cases h)⟩ ⟨rfl, rfl⟩ hok
  rw [e1]
  obtain ⟨id, M2, tb2, e2, f2, i2, d2, o2⟩ := mread_40 hl fuelN _ _ D1 tb1 M1 (by have := W_len g1; unfold fuelN; omega) i1 r1 g1
  exact ⟨id, M2, tb2, e2, f2, i2, d2, oo.tr (o1.tr o2)⟩
