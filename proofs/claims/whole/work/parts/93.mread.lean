/-! the model: the text read -/
theorem isThing_ok {c : Nat} (hc : c < 65536) (M : Mem) : f_X7_isThing (nI c) M = some (bI (isV c), M) := by
  unfold f_X7_isThing f_X7_isThing_12 f_X7_isThing_24 f_X7_isThing_29
  simp (disch := omega) only [neq, nlt, mrz_0, mrz_1]
  have two : (if c = 49 then some (bI true, M) else if c = 48 then some (bI true, M) else some (bI false, M)) = some (bI (c == 48 || c == 49), M) := by
    by_cases h1 : c = 49
    · subst h1; rfl
    · rw [if_neg h1]
      by_cases h2 : c = 48
      · subst h2; rfl
      · rw [if_neg h2]
        have : (c == 48 || c == 49) = false := by simp [h1, h2]
        rw [this]
  by_cases h3 : c < 97
  · rw [if_pos h3, two]
    have : isV c = (c == 48 || c == 49) := by
      apply bool_iff
      constructor
      · intro h; have := isV_cases h; simp; omega
      · intro h; simp at h; rcases h with rfl | rfl <;> rfl
    rw [this]
  · rw [if_neg h3]
    by_cases h4 : 102 < c
    · rw [if_pos h4, two]
      have : isV c = (c == 48 || c == 49) := by
        apply bool_iff
        constructor
        · intro h; have := isV_cases h; simp; omega
        · intro h; simp at h; omega
      rw [this]
    · rw [if_neg h4]
      have : isV c = true := by
        unfold isV
        simp
        omega
      rw [this]
theorem isAheadSign_ok {c : Nat} (hc : c < 65536) (M : Mem) : f_X7_isAheadSign (nI c) M = some (bI (isF c), M) := by
  have := isInFront_ok hc M
  unfold f_X2_isInFront f_X2_isInFront_30 f_X2_isInFront_35 at this
  unfold f_X7_isAheadSign f_X7_isAheadSign_30 f_X7_isAheadSign_35
  exact this
theorem rank_ok {c : Nat} (hc : c < 65536) (M : Mem) : f_X7_rank (nI c) M = some (nI (bnd c), M) := by
  unfold f_X7_rank f_X7_rank_32 f_X7_rank_37 bnd
  simp (disch := omega) only [neq]
  by_cases h1 : c = 124
  · subst h1; rfl
  rw [if_neg h1]
  by_cases h2 : c = 38
  · subst h2; rfl
  rw [if_neg h2, if_neg h2]
  by_cases h3 : c = 85
  · subst h3; rfl
  rw [if_neg h3]
  by_cases h4 : c = 82
  · subst h4; rfl
  rw [if_neg h4, if_neg h4, if_neg h3, if_neg h1]
/-- the fault, in the model -/
theorem mff_119 {k6 : Int32 → Int32 → Int32 → Mem → Option Rv} {due : Bool} {i c d : Nat} {M : Mem} (hc : c < 65536) (s0 s1 : Int32) (hs : s1 + s0 = nI d) : f_X7_faultOf_119 k6 (bI due) (nI i) (nI c) s0 s1 M = k6 (nI d) (bI (if due = true then !isV c else decide (c ≠ 41))) (nI (i + 1)) M := by
  unfold f_X7_faultOf_119 f_X7_faultOf_153
  simp (disch := omega) only [bI_0', neq, isThing_ok hc, Option.bind_some, hs, nI_add]
  cases due with
  | false =>
    simp only [if_true, Bool.false_eq_true, if_false]
    by_cases q : c = 41
    · rw [if_pos q, decide_eq_false (fun h => h q)]; rfl
    · rw [if_neg q, decide_eq_true q]; rfl
  | true =>
    simp only [Bool.true_eq_false, if_false, if_true]
    cases isV c <;> rfl
theorem fltI_m {L : Nat} (hL : L ≤ 60) {M : Mem} (h5 : M 218 23 = nI L) : ∀ (cs : List Nat) (due : Bool) (d i n : Nat), i + cs.length = L → cs.length < n → d ≤ 4 → (∀ j (h : j < cs.length), cs[j] < 65536 ∧ M 234 (i + j) = nI cs[j]) → f_X7_faultOf_6 n (nI d) (bI due) (nI i) M = some (fltI (flt cs due d i), M) := by
  intro cs
  induction cs with
  | nil =>
    intro due d i n h1 h2 h3 h4
    have : i = L := by simpa using h1
    subst this
    obtain ⟨n, rfl⟩ : ∃ m, n = m + 1 := ⟨n - 1, by simp at h2; omega⟩
    rw [f_X7_faultOf_6]
    unfold f_X7_faultOf_168 f_X7_faultOf_176 flt
    simp (disch := omega) only [h5, nlt, Nat.lt_irrefl, if_false, bI_0']
    cases due
    · by_cases hd : 0 < d
      · simp [hd, fltI]
      · simp [hd, fltI]
    · simp [fltI]
  | cons c cs ih =>
    intro due d i n h1 h2 h3 h4
    simp only [List.length_cons] at h1 h2
    obtain ⟨n, rfl⟩ : ∃ m, n = m + 1 := ⟨n - 1, by omega⟩
    obtain ⟨hc, h40⟩ := h4 0 (by simp)
    simp only [List.getElem_cons_zero, Nat.add_zero] at hc h40
    have h4' : ∀ j (h : j < cs.length), cs[j] < 65536 ∧ M 234 (i + 1 + j) = nI cs[j] := fun j hj => by
      have := h4 (j + 1) (by simp; omega)
      rw [show i + 1 + j = i + (j + 1) by omega]
      exact this
    have ih' := fun (due : Bool) d (hd : d ≤ 4) => ih due d (i + 1) n (by omega) (by omega) hd h4'
    have hb := bnd_lt c
    -- a step that is allowed
    have go : ∀ (due2 : Bool) (d2 : Nat), d2 ≤ 4 → (d2 = if c = 40 then d + 1 else if c = 41 then d - 1 else d) → (c = 41 → 0 < d) → due2 = (if due = true then !isV c else decide (c ≠ 41)) → f_X7_faultOf_86 (f_X7_faultOf_6 n) (nI d) (bI due) (nI i) (nI c) (nI 1) M = some (fltI (flt cs due2 d2 (i + 1)), M) := by
      intro due2 d2 hd2 hd3 h41 hdue
      unfold f_X7_faultOf_86
      simp (disch := omega) only [neq, show ¬ (1 : Nat) = 0 by omega, if_false]
      by_cases q1 : c = 40
      · rw [if_pos q1] at hd3
        rw [if_pos q1, mff_119 hc (nI 1) (nI d) (by rw [nI_add]), ← hdue, ← hd3]
        exact ih' due2 d2 hd2
      · rw [if_neg q1] at hd3
        rw [if_neg q1]
        by_cases q2 : c = 41
        · rw [if_pos q2] at hd3
          have hd0 := h41 q2
          obtain ⟨e, rfl⟩ : ∃ e, d = e + 1 := ⟨d - 1, by omega⟩
          rw [if_pos q2, mff_119 hc (-1) (nI (e + 1)) (pk_m1 e), ← hdue]
          rw [show d2 = e by omega]
          exact ih' due2 e (by omega)
        · rw [if_neg q2] at hd3
          rw [if_neg q2, mff_119 hc (nI 0) (nI d) (by rw [nI_add, Nat.add_zero]), ← hdue, ← hd3]
          exact ih' due2 d2 hd2
    have stop : f_X7_faultOf_86 (f_X7_faultOf_6 n) (nI d) (bI due) (nI i) (nI c) (nI 0) M = some (nI i, M) := by
      unfold f_X7_faultOf_86
      rw [if_pos rfl]
    rw [f_X7_faultOf_6]
    unfold f_X7_faultOf_81 f_X7_faultOf_85 f_X7_faultOf_54 f_X7_faultOf_58
    simp (disch := omega) only [h5, nlt, show i < L by omega, if_true, mrd_n, Option.bind_some, h40, bI_0', rank_ok hc, neq, isThing_ok hc, isAheadSign_ok hc, stop]
    cases due with
    | false =>
      simp only [if_true]
      unfold flt
      by_cases q : c = 41 ∧ 0 < d
      · rw [if_pos q]
        have hb0 : ¬ 0 < bnd c := by rw [q.1]; decide
        rw [if_neg hb0, if_pos q.1, if_pos q.2]
        exact go false (d - 1) (by omega) (by rw [if_neg (show ¬ c = 40 by omega), if_pos q.1]) (fun _ => q.2) (by rw [if_neg (by decide), decide_eq_false (fun h => h q.1)])
      · rw [if_neg q]
        by_cases hz : 0 < bnd c
        · obtain ⟨-, -, z1, z2, -⟩ := bnd_isF hz
          rw [if_pos hz, if_pos hz]
          exact go true d h3 (by rw [if_neg z1, if_neg z2]) (fun h => absurd h z2) (by rw [if_neg (by decide), decide_eq_true z2])
        · rw [if_neg hz, if_neg hz]
          by_cases q1 : c = 41
          · rw [if_pos q1, if_neg (fun q2 => q ⟨q1, q2⟩)]; rfl
          · rw [if_neg q1]; rfl
    | true =>
      simp only [Bool.true_eq_false, if_false]
      unfold flt
      by_cases q : c = 40 ∧ d < 4
      · have hv : isV c = false := by rw [q.1]; decide
        have hf : isF c = false := by rw [q.1]; decide
        rw [if_pos q, hv, hf, if_pos rfl, if_pos rfl, if_pos q.1, if_pos q.2]
        exact go true (d + 1) (by omega) (by rw [if_pos q.1]) (fun h => by omega) (by rw [if_pos rfl, hv]; rfl)
      · rw [if_neg q]
        cases hv : isV c with
        | true =>
          simp only [Bool.true_eq_false, if_false, if_true]
          have := isV_cases hv
          exact go false d h3 (by rw [if_neg (show ¬ c = 40 by omega), if_neg (show ¬ c = 41 by omega)]) (fun h => by omega) (by rw [if_pos rfl, hv]; rfl)
        | false =>
          simp only [if_true, Bool.false_eq_true, if_false]
          cases hf : isF c with
          | true =>
            simp only [Bool.true_eq_false, if_false, if_true]
            have := isF_cases hf
            exact go true d h3 (by rw [if_neg (show ¬ c = 40 by omega), if_neg (show ¬ c = 41 by omega)]) (fun h => by omega) (by rw [if_pos rfl, hv]; rfl)
          | false =>
            simp only [if_true, Bool.false_eq_true, if_false]
            by_cases q1 : c = 40
            · rw [if_pos q1, if_neg (fun q2 => q ⟨q1, q2⟩)]; rfl
            · rw [if_neg q1]; rfl
theorem faultOf_ok {M : Mem} {cs : List Nat} (hl : cs.length ≤ 60) (h5 : M 218 23 = nI cs.length) (ht : ∀ i (h : i < cs.length), cs[i] < 65536 ∧ M 234 i = nI cs[i]) : f_X7_faultOf M = some (fltI (flt cs true 0 0), M) :=
  fltI_m hl h5 cs true 0 0 fuelN (by omega) (by unfold fuelN; omega) (by omega) (fun j hj => by rw [Nat.zero_add]; exact ht j hj)
/-! the two stacks of the model -/
def RDm (M : Mem) (tb V : List T) (W : List Nat) : Prop := MT M tb ∧ M 218 18 = nI V.length ∧ M 218 19 = nI W.length ∧ SV M 231 tb V ∧ SW M 232 W
def FRm (M M' : Mem) : Prop := (∀ c, c = 219 ∨ c = 220 ∨ c = 221 ∨ 233 ≤ c → M' c = M c) ∧ ∀ i, 20 ≤ i → M' 218 i = M 218 i
theorem FRm.rfl' (M : Mem) : FRm M M := ⟨fun _ _ => rfl, fun _ _ => rfl⟩
theorem FRm.tr {A B C : Mem} (h : FRm A B) (g : FRm B C) : FRm A C := ⟨fun c hc => by rw [g.1 c hc, h.1 c hc], fun i hi => by rw [g.2 i hi, h.2 i hi]⟩
theorem FW.frm {M M' : Mem} (h : FW M M') : FRm M M' := ⟨fun c hc => h.1 c (by omega), fun i hi => h.2 i (by omega)⟩
theorem mpair_ok {M : Mem} {tb D : List T} (h : MT M tb) (hP : PT D tb) (hD : D.length ≤ 60) {k a b : Nat} (hk : 16 ≤ k) (hk2 : k ≤ 19) (ha : a < 16 + tb.length) (hb : b < 16 + tb.length) (hb0 : k < 18 → b = 0) (na : NF (dn tb a)) (nb : NF (dn tb b)) :
    ∃ (y : Nat) (M' : Mem) (tc D' : List T), f_X7_make (nI (k - 15)) (nI a) (nI b) M = some (nI y, M') ∧ MT M' (tb ++ tc) ∧ PT D' (tb ++ tc) ∧ D'.length ≤ D.length + 1 ∧ y < 16 + (tb ++ tc).length ∧ dn (tb ++ tc) y = nd k (prs k (dn tb a) (dn tb b)) ∧ FW M M' := by
  obtain ⟨c1, c2⟩ := PT_cap h.1 hP
  obtain ⟨y, M', tc, e, f, i, d, l, o, -⟩ := mmake_ok h hk hk2 ha hb hb0 (fun _ => by omega)
  refine ⟨y, M', tc, nd k (prs k (dn tb a) (dn tb b)) :: D, e, f, ?_, by simp, i, d, o.fb.fw⟩
  have hm := PT_mono (nd k (prs k (dn tb a) (dn tb b))) hP
  rcases l with rfl | ⟨rfl, -⟩
  · rw [List.append_nil]; exact hm
  · exact PT_snoc hm ⟨prs_NF hk hk2 na nb, by rw [MW_un (by omega)]; omega, Or.inl List.mem_cons_self⟩
theorem mtwo_ok {M : Mem} {tb D : List T} (h : MT M tb) (hP : PT D tb) (hD : D.length ≤ 60) {k a b : Nat} (hk : k = 20 ∨ k = 21) (ha : a < 16 + tb.length) (hb : b < 16 + tb.length) (na : NF (dn tb a)) (nb : NF (dn tb b)) (hm : MW (dn tb a) + MW (dn tb b) ≤ 60) :
    ∃ (y : Nat) (M' : Mem) (tc D' : List T), f_X7_both (nI (k - 15)) (nI a) (nI b) M = some (nI y, M') ∧ MT M' (tb ++ tc) ∧ PT D' (tb ++ tc) ∧ D'.length ≤ D.length + 1 ∧ y < 16 + (tb ++ tc).length ∧ dn (tb ++ tc) y = joinT k [dn tb a, dn tb b] ∧ FW M M' := by
  obtain ⟨c1, c2⟩ := PT_cap h.1 hP
  have hls := lsum_le tb
  have w1 := wdt_MW hk (dn tb a)
  have w2 := wdt_MW hk (dn tb b)
  obtain ⟨y, M', tc, e, f, i, d, l, o⟩ := both_ok h hk ha hb (by omega) (fun _ => ⟨by omega, by omega⟩)
  refine ⟨y, M', tc, joinT k [dn tb a, dn tb b] :: D, e, f, ?_, by simp, i, d, o.fw⟩
  have hm' := PT_mono (joinT k [dn tb a, dn tb b]) hP
  rcases l with rfl | ⟨rfl, -⟩
  · rw [List.append_nil]; exact hm'
  · have hA : allAR [dn tb a, dn tb b] := two_mem (p := fun t => AR t = true) (MT_AR h ha) (MT_AR h hb)
    exact PT_snoc hm' ⟨joinT_NF hk hA (two_mem na nb), Nat.le_trans (MW_joinT hk (b := MW (dn tb a) + MW (dn tb b)) (by simp; omega) (by have := MW_pos (dn tb a); omega) (two_mem (p := fun x => MW x ≤ _) (by omega) (by omega))) hm, Or.inl List.mem_cons_self⟩
theorem RDm_put {M M' : Mem} {tb tc V : List T} {W : List Nat} {y : Nat} {v : T} (f : MT M' (tb ++ tc)) (a6 : M' 218 18 = nI (V.length + 1)) (a7 : M' 218 19 = nI W.length) (sv : SV M 231 tb V) (sw : SW M 232 W) (h24 : M' 231 = M 231) (h25 : M' 232 = M 232) (i : y < 16 + (tb ++ tc).length) (d : dn (tb ++ tc) y = v) : RDm (mwr M' 231 V.length (nI y)) (tb ++ tc) (v :: V) W := by
  refine ⟨f.congr (fun c _ _ => mwr_ne _ _ _ (by omega)) (mwr_ne _ _ _ (by omega)) (mwr_off _ _ _ (by omega)) (mwr_off _ _ _ (by omega)), by rw [mwr_off _ _ _ (by omega)]; exact a6, by rw [mwr_off _ _ _ (by omega)]; exact a7, ⟨⟨y, i, mwr_at _ _ _ _, d⟩, SV.mv sv (fun j hj => ?_)⟩, SW.mv sw (fun j hj => ?_)⟩
  · rw [mwr_in _ (by omega), h24]
  · rw [mwr_off _ _ _ (by omega), h25]
theorem apply_un {b : Nat} (hb : b ≤ 60) {M : Mem} {D tb V : List T} {W : List Nat} {v : T} {w : Nat} (hR : RDm M tb (v :: V) (w :: W)) (hB : BG D tb (v :: V) (w :: W) b) (hw : isF w = true) :
    ∃ (M' : Mem) (tb' D' : List T), f_X7_apply M = some (nI 0, M') ∧ RDm M' tb' (unT w v :: V) W ∧ BG D' tb' (unT w v :: V) W b ∧ FRm M M' := by
  obtain ⟨f, a6, a7, ⟨⟨id, i1, i2, i3⟩, sv⟩, ⟨w1, w2⟩, sw⟩ := hR
  obtain ⟨b1, b2, b3, b4, b5⟩ := hB
  have hl := sum_len_MW V
  have hp := MW_pos v
  have b5' := VN_cons.mp b5
  have hc := isF_cases hw
  simp only [List.length_cons, List.map_cons, List.sum_cons] at a6 a7 b2 b3 b4
  unfold f_X7_apply
  rw [a7, nsub (by omega), Nat.add_sub_cancel, mpi_n, Option.bind_some]
  generalize hM6 : mwr M 218 19 (nI W.length) = M6
  have z6 : M6 218 18 = nI (V.length + 1) := by rw [← hM6, mwr_in _ (by omega)]; exact a6
  have z7 : M6 218 19 = nI W.length := by rw [← hM6, mwr_at]
  have far : ∀ c, c ≠ 218 → M6 c = M c := fun c hc => by rw [← hM6, mwr_ne _ _ _ hc]
  have z5 : ∀ i, i ≠ 19 → M6 218 i = M 218 i := fun i hi => by rw [← hM6, mwr_in _ hi]
  have f6 : MT M6 tb := f.congr (fun c _ _ => far c (by omega)) (far 229 (by omega)) (z5 11 (by omega)) (z5 12 (by omega))
  have v7 : M6 231 V.length = nI id := by rw [far 231 (by omega)]; exact i2
  have v8 : M6 232 W.length = nI w := by rw [far 232 (by omega)]; exact w2
  unfold f_X7_apply_118
  rw [z7, mrd_n (by omega) (by omega), Option.bind_some, v8, z6, nsub (by omega), Nat.add_sub_cancel, mrd_n (by omega) (by omega), Option.bind_some, v7, isAheadSign_ok w1, Option.bind_some]
  dsimp only
  rw [hw, if_neg (by decide), z6, nsub (show 1 ≤ V.length + 1 by omega), Nat.add_sub_cancel]
  obtain ⟨u1, u2, u3, u4⟩ := unT_ok (w := w) b5'.1.1 b5'.1.2
  have fin : ∀ (y : Nat) (M1 : Mem) (tc D1 : List T), MT M1 (tb ++ tc) → PT D1 (tb ++ tc) → D1.length ≤ D.length + 1 → y < 16 + (tb ++ tc).length → dn (tb ++ tc) y = unT w v → FW M6 M1 → ∃ (M' : Mem) (tb' D' : List T), ((mst M1 231 64 (nI V.length) (nI y)).bind fun M1 => some (nI 0, M1)) = some (nI 0, M') ∧ RDm M' tb' (unT w v :: V) W ∧ BG D' tb' (unT w v :: V) W b ∧ FRm M M' := by
    intro y M1 tc D1 f1 p1 l1 j1 d1 o1
    rw [mst_n (by omega) (by omega), Option.bind_some]
    refine ⟨_, tb ++ tc, D1, rfl, RDm_put (M := M) f1 (by rw [o1.2 18 (by omega)]; exact z6) (by rw [o1.2 19 (by omega)]; exact z7) sv sw (by rw [o1.1 231 (by omega), far 231 (by omega)]) (by rw [o1.1 232 (by omega), far 232 (by omega)]) j1 d1, ⟨p1, by omega, by simp only [List.map_cons, List.sum_cons]; omega, by simp only [List.map_cons, List.sum_cons]; omega, VN_cons.mpr ⟨⟨u1, u2⟩, b5'.2⟩⟩, fun c hc => ?_, fun i hi => ?_⟩
    · rw [mwr_ne _ _ _ (by omega), o1.1 c (by omega), far c (by omega)]
    · rw [mwr_off _ _ _ (by omega), o1.2 i (by omega), z5 i (by omega)]
  have zer : (0 : Nat) < 16 + tb.length := by omega
  simp (disch := omega) only [neq]
  unfold unT at fin ⊢
  by_cases h1 : w = 33
  · simp only [if_pos h1] at fin ⊢
    obtain ⟨y, M', tc, e, f1, p, i, d, o⟩ := mopposite_ok f6 (show D.length ≤ 60 by omega) b1 i1
    rw [e, Option.bind_some]
    exact fin y M' tc D f1 p (by omega) i (by rw [d, i3]) o
  simp only [if_neg h1] at fin ⊢
  by_cases h4 : w = 88
  · have h2 : ¬ w = 71 := by omega
    have h3 : ¬ w = 78 := by omega
    simp only [if_neg h2, if_neg h3, if_pos h4] at fin ⊢
    obtain ⟨y, M', tc, D', e, f1, p, l, i, d, o⟩ := mpair_ok (k := 16) (a := id) (b := 0) f6 b1 (by omega) (by omega) (by omega) i1 zer (fun _ => rfl) (by rw [i3]; exact b5'.1.2) (NF_lf 0 (by omega))
    rw [show nI 1 = nI (16 - 15) from rfl, e, Option.bind_some]
    exact fin y M' tc D' f1 p l i (by rw [d, i3]; rfl) o
  by_cases h3 : w = 78
  · have h2 : ¬ w = 71 := by omega
    simp only [if_neg h2, if_pos h3, if_neg h4] at fin ⊢
    obtain ⟨y, M', tc, D', e, f1, p, l, i, d, o⟩ := mpair_ok (k := 17) (a := id) (b := 0) f6 b1 (by omega) (by omega) (by omega) i1 zer (fun _ => rfl) (by rw [i3]; exact b5'.1.2) (NF_lf 0 (by omega))
    rw [show nI 2 = nI (17 - 15) from rfl, e, Option.bind_some]
    exact fin y M' tc D' f1 p l i (by rw [d, i3]; rfl) o
  by_cases h2 : w = 71
  · simp only [if_pos h2, if_neg h3, if_neg h4] at fin ⊢
    obtain ⟨y, M', tc, D', e, f1, p, l, i, d, o⟩ := mpair_ok (k := 19) (a := 0) (b := id) f6 b1 (by omega) (by omega) (by omega) zer i1 (fun q => by omega) (NF_lf 0 (by omega)) (by rw [i3]; exact b5'.1.2)
    rw [show nI 4 = nI (19 - 15) from rfl, e, Option.bind_some]
    exact fin y M' tc D' f1 p l i (by rw [d, i3]; rfl) o
  simp only [if_neg h2, if_neg h3, if_neg h4] at fin ⊢
  obtain ⟨y, M', tc, D', e, f1, p, l, i, d, o⟩ := mpair_ok (k := 18) (a := 1) (b := id) f6 b1 (by omega) (by omega) (by omega) (by omega) i1 (fun q => by omega) (NF_lf 1 (by omega)) (by rw [i3]; exact b5'.1.2)
  rw [show nI 3 = nI (18 - 15) from rfl, e, Option.bind_some]
  exact fin y M' tc D' f1 p l i (by rw [d, i3]; rfl) o
theorem apply_bi {b : Nat} (hb : b ≤ 60) {M : Mem} {D tb V : List T} {W : List Nat} {v u : T} {w : Nat} (hR : RDm M tb (v :: u :: V) (w :: W)) (hB : BG D tb (v :: u :: V) (w :: W) b) (hw : 0 < bnd w) :
    ∃ (M' : Mem) (tb' D' : List T), f_X7_apply M = some (nI 0, M') ∧ RDm M' tb' (biT w u v :: V) W ∧ BG D' tb' (biT w u v :: V) W b ∧ FRm M M' := by
  obtain ⟨f, a6, a7, ⟨⟨iv, i1, i2, i3⟩, ⟨iu, j1, j2, j3⟩, sv⟩, ⟨w1, w2⟩, sw⟩ := hR
  obtain ⟨b1, b2, b3, b4, b5⟩ := hB
  have hl := sum_len_MW V
  have hpv := MW_pos v
  have hpu := MW_pos u
  have b5' := VN_cons.mp b5
  have b5u := VN_cons.mp b5'.2
  obtain ⟨hwF, -, -, -, hwc⟩ := bnd_isF hw
  simp only [List.length_cons, List.map_cons, List.sum_cons] at a6 a7 b2 b3 b4 i2
  unfold f_X7_apply
  rw [a7, nsub (by omega), Nat.add_sub_cancel, mpi_n, Option.bind_some]
  generalize hM6 : mwr M 218 19 (nI W.length) = M6
  have z6 : M6 218 18 = nI (V.length + 1 + 1) := by rw [← hM6, mwr_in _ (by omega)]; exact a6
  have z7 : M6 218 19 = nI W.length := by rw [← hM6, mwr_at]
  have far : ∀ c, c ≠ 218 → M6 c = M c := fun c hc => by rw [← hM6, mwr_ne _ _ _ hc]
  have z5 : ∀ i, i ≠ 19 → M6 218 i = M 218 i := fun i hi => by rw [← hM6, mwr_in _ hi]
  have v7 : M6 231 (V.length + 1) = nI iv := by rw [far 231 (by omega)]; exact i2
  have v8 : M6 232 W.length = nI w := by rw [far 232 (by omega)]; exact w2
  unfold f_X7_apply_197 f_X7_apply_202
  rw [z7, mrd_n (by omega) (by omega), Option.bind_some, v8, z6, nsub (by omega), Nat.add_sub_cancel, mrd_n (by omega) (by omega), Option.bind_some, v7, isAheadSign_ok w1, Option.bind_some]
  dsimp only
  rw [hwF, bI_f, if_pos rfl, z6, nsub (show 1 ≤ V.length + 1 + 1 by omega), Nat.add_sub_cancel, mpi_n, Option.bind_some]
  generalize hM7 : mwr M6 218 18 (nI (V.length + 1)) = M7
  have y6 : M7 218 18 = nI (V.length + 1) := by rw [← hM7, mwr_at]
  have y7 : M7 218 19 = nI W.length := by rw [← hM7, mwr_in _ (by omega)]; exact z7
  have far7 : ∀ c, c ≠ 218 → M7 c = M c := fun c hc => by rw [← hM7, mwr_ne _ _ _ hc, far c hc]
  have y5 : ∀ i, i ≠ 18 → i ≠ 19 → M7 218 i = M 218 i := fun i p q => by rw [← hM7, mwr_in _ p, z5 i q]
  have f7 : MT M7 tb := f.congr (fun c _ _ => far7 c (by omega)) (far7 229 (by omega)) (y5 11 (by omega) (by omega)) (y5 12 (by omega) (by omega))
  have v9 : M7 231 V.length = nI iu := by rw [far7 231 (by omega)]; exact j2
  rw [y6, nsub (by omega), Nat.add_sub_cancel, mrd_n (by omega) (by omega), Option.bind_some, v9]
  obtain ⟨u1, u2, u3, u4⟩ := biT_ok (w := w) b5u.1.1 b5u.1.2 b5'.1.1 b5'.1.2
  have fin : ∀ (y : Nat) (M1 : Mem) (tc D1 : List T), MT M1 (tb ++ tc) → PT D1 (tb ++ tc) → D1.length ≤ D.length + 1 → y < 16 + (tb ++ tc).length → dn (tb ++ tc) y = biT w u v → FW M7 M1 → ∃ (M' : Mem) (tb' D' : List T), ((mst M1 231 64 (nI V.length) (nI y)).bind fun M1 => some (nI 0, M1)) = some (nI 0, M') ∧ RDm M' tb' (biT w u v :: V) W ∧ BG D' tb' (biT w u v :: V) W b ∧ FRm M M' := by
    intro y M1 tc D1 f1 p1 l1 j1 d1 o1
    rw [mst_n (by omega) (by omega), Option.bind_some]
    refine ⟨_, tb ++ tc, D1, rfl, RDm_put (M := M) f1 (by rw [o1.2 18 (by omega)]; exact y6) (by rw [o1.2 19 (by omega)]; exact y7) sv sw (by rw [o1.1 231 (by omega), far7 231 (by omega)]) (by rw [o1.1 232 (by omega), far7 232 (by omega)]) j1 d1, ⟨p1, by omega, by simp only [List.map_cons, List.sum_cons]; omega, by simp only [List.map_cons, List.sum_cons]; omega, VN_cons.mpr ⟨⟨u1, u2⟩, b5u.2⟩⟩, fun c hc => ?_, fun i hi => ?_⟩
    · rw [mwr_ne _ _ _ (by omega), o1.1 c (by omega), far7 c (by omega)]
    · rw [mwr_off _ _ _ (by omega), o1.2 i (by omega), y5 i (by omega) (by omega)]
  have nu : NF (dn tb iu) := by rw [j3]; exact b5u.1.2
  have nv : NF (dn tb iv) := by rw [i3]; exact b5'.1.2
  have hmw : MW (dn tb iu) + MW (dn tb iv) ≤ 60 := by rw [j3, i3]; omega
  simp (disch := omega) only [neq]
  unfold biT at fin ⊢
  rcases hwc with rfl | rfl | rfl | rfl
  · simp +decide only [if_true, if_false] at fin ⊢
    obtain ⟨y, M', tc, D', e, f1, p, l, i, d, o⟩ := mtwo_ok (k := 20) f7 b1 (by omega) (Or.inl rfl) j1 i1 nu nv hmw
    rw [show nI 5 = nI (20 - 15) from rfl, e, Option.bind_some]
    exact fin y M' tc D' f1 p l i (by rw [d, j3, i3]) o
  · simp +decide only [if_true, if_false] at fin ⊢
    obtain ⟨y, M', tc, D', e, f1, p, l, i, d, o⟩ := mpair_ok (k := 19) f7 b1 (by omega) (by omega) (by omega) j1 i1 (fun q => by omega) nu nv
    rw [show nI 4 = nI (19 - 15) from rfl, e, Option.bind_some]
    exact fin y M' tc D' f1 p l i (by rw [d, j3, i3]; rfl) o
  · simp +decide only [if_true, if_false] at fin ⊢
    obtain ⟨y, M', tc, D', e, f1, p, l, i, d, o⟩ := mpair_ok (k := 18) f7 b1 (by omega) (by omega) (by omega) j1 i1 (fun q => by omega) nu nv
    rw [show nI 3 = nI (18 - 15) from rfl, e, Option.bind_some]
    exact fin y M' tc D' f1 p l i (by rw [d, j3, i3]; rfl) o
  · simp +decide only [if_true, if_false] at fin ⊢
    obtain ⟨y, M', tc, D', e, f1, p, l, i, d, o⟩ := mtwo_ok (k := 21) f7 b1 (by omega) (Or.inr rfl) j1 i1 nu nv hmw
    rw [show nI 6 = nI (21 - 15) from rfl, e, Option.bind_some]
    exact fin y M' tc D' f1 p l i (by rw [d, j3, i3]) o
