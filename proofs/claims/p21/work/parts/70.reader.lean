/-! the class's reader: small programs -/
theorem mrz_b (b : Bool) (M : Mem) : mrz (bI b) M = some (bI b, M) := by
  unfold mrz
  cases b <;> exact if_pos (by decide)
theorem mrz_0 (M : Mem) : mrz (nI 0) M = some (bI false, M) := mrz_b false M
theorem mrz_1 (M : Mem) : mrz (nI 1) M = some (bI true, M) := mrz_b true M
theorem bI_0' (a : Bool) : (bI a = nI 0) = (a = false) := propext (bI_0 a)
theorem isInFront_ok {c : Nat} (hc : c < 65536) (M : Mem) : f_X2_isInFront (nI c) M = some (bI (isF c), M) := by
  unfold f_X2_isInFront f_X2_isInFront_30 f_X2_isInFront_35
  simp (disch := omega) only [neq, mrz_0, mrz_1]
  by_cases h1 : c = 33
  · subst h1; rfl
  rw [if_neg h1]
  by_cases h2 : c = 88
  · subst h2; rfl
  rw [if_neg h2]
  by_cases h3 : c = 78
  · subst h3; rfl
  rw [if_neg h3]
  by_cases h4 : c = 71
  · subst h4; rfl
  rw [if_neg h4]
  by_cases h5 : c = 70
  · subst h5; rfl
  rw [if_neg h5]
  have : isF c = false := by unfold isF; simp [h1, h2, h3, h4, h5]
  rw [this]
theorem isV_cases {c : Nat} (h : isV c = true) : c = 48 ∨ c = 49 ∨ (97 ≤ c ∧ c ≤ 102) := by
  unfold isV at h
  simp at h
  omega
theorem isValue_ok {c : Nat} (hc : c < 65536) (M : Mem) : f_X2_isValue (nI c) M = some (bI (isV c), M) := by
  unfold f_X2_isValue f_X2_isValue_24 f_X2_isValue_28 f_X2_isValue_29
  simp (disch := omega) only [neq, nlt, mrz_0, mrz_1]
  by_cases h1 : c = 48
  · subst h1; rfl
  rw [if_neg h1]
  by_cases h2 : c = 49
  · subst h2; rfl
  rw [if_neg h2]
  by_cases h3 : c < 97
  · rw [if_pos h3]
    have : isV c = false := by
      unfold isV
      simp [h1, h2]
      omega
    rw [this]
  · rw [if_neg h3]
    by_cases h4 : 102 < c
    · rw [if_pos h4]
      have : isV c = false := by
        cases hh : isV c
        · rfl
        · exact absurd (isV_cases hh) (by omega)
      rw [this]
    · rw [if_neg h4]
      have : isV c = true := by
        unfold isV
        simp [h1, h2]
        omega
      rw [this]
theorem bnd_lt (c : Nat) : bnd c < 4 := by
  unfold bnd
  repeat' split
  all_goals omega
theorem binding_ok {c : Nat} (hc : c < 65536) (M : Mem) : f_X2_binding (nI c) M = some (nI (bnd c), M) := by
  unfold f_X2_binding bnd
  simp (disch := omega) only [neq]
  repeat' split
  all_goals rfl
theorem isBetween_ok {c : Nat} (hc : c < 65536) (M : Mem) : f_X2_isBetween (nI c) M = some (bI (decide (0 < bnd c)), M) := by
  have hb := bnd_lt c
  unfold f_X2_isBetween f_X2_isBetween_12
  simp (disch := omega) only [binding_ok hc, Option.bind_some, nlt, mrz_0, mrz_1]
  by_cases h : 0 < bnd c
  · rw [if_pos h, decide_eq_true h]
  · rw [if_neg h, decide_eq_false h]
theorem least_ok {c : Nat} (hc : c < 65536) (M : Mem) : f_X2_leastToCombine (nI c) M = some (nI (lst c), M) := by
  have hb := bnd_lt c
  unfold f_X2_leastToCombine f_X2_leastToCombine_12 f_X2_leastToCombine_25 lst
  simp (disch := omega) only [binding_ok hc, Option.bind_some, neq, nI_add]
  by_cases h1 : c = 85
  · rw [if_pos h1, if_pos (Or.inl h1)]
  · rw [if_neg h1]
    by_cases h2 : c = 82
    · rw [if_pos h2, if_pos (Or.inr h2)]
    · rw [if_neg h2, if_neg (by omega)]
def vid (c : Nat) : Nat := if c = 48 then 0 else if c = 49 then 1 else 4 + (c - 97)
theorem valT_vid (c : Nat) : valT c = lf (vid c) := by
  unfold valT vid
  repeat' split
  all_goals rfl
theorem vid_lt {c : Nat} (h : isV c = true) : vid c < 16 := by
  have := isV_cases h
  unfold vid
  repeat' split
  all_goals omega
theorem valueOf_ok {c : Nat} (h : isV c = true) (M : Mem) : f_X2_valueOf (nI c) M = some (nI (vid c), M) := by
  have hc := isV_cases h
  unfold f_X2_valueOf f_X2_valueOf_26 vid
  simp (disch := omega) only [neq]
  by_cases h1 : c = 48
  · rw [if_pos h1, if_pos h1]
  · rw [if_neg h1, if_neg h1]
    by_cases h2 : c = 49
    · rw [if_pos h2, if_pos h2]
    · rw [if_neg h2, if_neg h2, nsub (by omega), nI_add]
/-! stacks in the memory -/
def SV (M : Mem) (c : Nat) (tb : List T) : List T → Prop
  | [] => True
  | v :: V => (∃ id, id < 16 + tb.length ∧ M c V.length = nI id ∧ dn tb id = v) ∧ SV M c tb V
def SW (M : Mem) (c : Nat) : List Nat → Prop
  | [] => True
  | w :: W => (w < 65536 ∧ M c W.length = nI w) ∧ SW M c W
theorem SV.mv {M M' : Mem} {c : Nat} {tb tc : List T} : ∀ {V : List T}, SV M c tb V → (∀ i, i < V.length → M' c i = M c i) → SV M' c (tb ++ tc) V
  | [], _, _ => trivial
  | v :: V, ⟨⟨id, a, b, d⟩, h⟩, hc => ⟨⟨id, by rw [List.length_append]; omega, by rw [hc _ (by simp)]; exact b, by rw [dn_app a]; exact d⟩, SV.mv h (fun i hi => hc i (by simp; omega))⟩
theorem SV.mv0 {M M' : Mem} {c : Nat} {tb : List T} {V : List T} (h : SV M c tb V) (hc : ∀ i, i < V.length → M' c i = M c i) : SV M' c tb V := by
  have := SV.mv (tc := []) h hc
  rwa [List.append_nil] at this
theorem SW.mv {M M' : Mem} {c : Nat} : ∀ {W : List Nat}, SW M c W → (∀ i, i < W.length → M' c i = M c i) → SW M' c W
  | [], _, _ => trivial
  | w :: W, ⟨⟨a, b⟩, h⟩, hc => ⟨⟨a, by rw [hc _ (by simp)]; exact b⟩, SW.mv h (fun i hi => hc i (by simp; omega))⟩
theorem SW.all {M : Mem} {c : Nat} : ∀ {W : List Nat}, SW M c W → ∀ w ∈ W, w < 65536
  | [], _, w, h => by cases h
  | _ :: _, ⟨a, h⟩, w, hw => by
    rcases List.mem_cons.mp hw with rfl | hw
    · exact a.1
    · exact SW.all h w hw
/-- what the machine may have made -/
def BG (D tb V : List T) (W : List Nat) (b : Nat) : Prop := PT D tb ∧ D.length + W.length ≤ b ∧ (V.map MW).sum ≤ b ∧ (V.map size).sum + 2 * W.length ≤ 2 * b ∧ VN V
theorem PT_mono {D tb : List T} (t : T) (h : PT D tb) : PT (t :: D) tb := fun u hu => by
  obtain ⟨a, b, c⟩ := h u hu
  refine ⟨a, b, ?_⟩
  rcases c with c | c
  · exact Or.inl (List.mem_cons_of_mem _ c)
  · exact Or.inr (List.mem_cons_of_mem _ c)
theorem size_opp : ∀ t : T, AR t = true → size (opp t) ≤ size t := by
  intro t
  induction t using T_ind with
  | h k ts ih =>
    intro h
    have hA := ((AR_nd _ _).mp h).2
    have hl : ∀ l : List T, (∀ x ∈ l, x ∈ ts) → ((l.map opp).map size).sum ≤ (l.map size).sum := by
      intro l
      induction l with
      | nil => intro _; exact Nat.le_refl _
      | cons a l ihl =>
        intro hx
        have h1 := ihl (fun t ht => hx t (List.mem_cons_of_mem _ ht))
        have h2 := ih a (hx a List.mem_cons_self) (hA a (hx a List.mem_cons_self))
        simp only [List.map_cons, List.sum_cons]
        omega
    have hts := hl ts (fun _ h => h)
    have hs := size_nd k ts
    rw [opp_nd]
    unfold oppN
    repeat' split
    · rw [size_lf]; omega
    · rw [size_nd]; omega
    · rw [size_nd]; omega
    · rw [size_nd]; omega
    · rw [size_nd]; omega
    · have := joinT_size (41 - k) (ts.map opp)
      omega
theorem sum_len_MW (V : List T) : V.length ≤ (V.map MW).sum := by
  induction V with
  | nil => exact Nat.le_refl _
  | cons v V ih =>
    have := MW_pos v
    simp only [List.length_cons, List.map_cons, List.sum_cons]
    omega
theorem NF_un {k : Nat} {ts : List T} (hk : ¬ (k = 20 ∨ k = 21)) (h : ∀ t ∈ ts, NF t) : NF (nd k ts) := (NF_nd _ _).mpr ⟨h, fun q => absurd q hk⟩
theorem MW_un {k : Nat} {ts : List T} (hk : ¬ (k = 20 ∨ k = 21)) : MW (nd k ts) = 1 := by rw [MW_nd, if_neg hk]
theorem prs_NF {k : Nat} {a b : T} (hk : 16 ≤ k) (hk2 : k ≤ 19) (ha : NF a) (hb : NF b) : NF (nd k (prs k a b)) := NF_un (by omega) (fun t ht => by
  unfold prs at ht
  split at ht
  · rw [List.mem_singleton.mp ht]; exact ha
  · rcases List.mem_cons.mp ht with rfl | ht
    · exact ha
    · rw [List.mem_singleton.mp ht]; exact hb)
/-- a pair made while reading -/
theorem rpair_ok {M : Mem} {tb D : List T} (h : FT M tb) (hP : PT D tb) (hD : D.length ≤ 60) {k a b : Nat} (hk : 16 ≤ k) (hk2 : k ≤ 19) (ha : a < 16 + tb.length) (hb : b < 16 + tb.length) (na : NF (dn tb a)) (nb : NF (dn tb b)) :
    ∃ (y : Nat) (M' : Mem) (tc D' : List T), f_X0_make (nI k) (nI a) (nI b) M = some (nI y, M') ∧ FT M' (tb ++ tc) ∧ PT D' (tb ++ tc) ∧ D'.length ≤ D.length + 1 ∧ y < 16 + (tb ++ tc).length ∧ dn (tb ++ tc) y = nd k (prs k (dn tb a) (dn tb b)) ∧ ∀ c, c = 0 ∨ 17 ≤ c → M' c = M c := by
  obtain ⟨c1, c2⟩ := PT_cap h.1 hP
  obtain ⟨y, M', tc, e, f, i, d, l, o⟩ := pair_ok h hk hk2 ha hb (fun _ => ⟨by omega, by omega⟩)
  refine ⟨y, M', tc, nd k (prs k (dn tb a) (dn tb b)) :: D, e, f, ?_, by simp, i, d, fun c hc => o c (by omega)⟩
  have hm := PT_mono (nd k (prs k (dn tb a) (dn tb b))) hP
  rcases l with rfl | ⟨rfl, -⟩
  · rw [List.append_nil]; exact hm
  · exact PT_snoc hm ⟨prs_NF hk hk2 na nb, by rw [MW_un (by omega)]; omega, Or.inl List.mem_cons_self⟩
theorem rtwo_ok {M : Mem} {tb D : List T} (h : FT M tb) (hP : PT D tb) (hD : D.length ≤ 60) {k a b : Nat} (hk : k = 20 ∨ k = 21) (ha : a < 16 + tb.length) (hb : b < 16 + tb.length) (na : NF (dn tb a)) (nb : NF (dn tb b)) (hm : MW (dn tb a) + MW (dn tb b) ≤ 60) :
    ∃ (y : Nat) (M' : Mem) (tc D' : List T), f_X0_two (nI k) (nI a) (nI b) M = some (nI y, M') ∧ FT M' (tb ++ tc) ∧ PT D' (tb ++ tc) ∧ D'.length ≤ D.length + 1 ∧ y < 16 + (tb ++ tc).length ∧ dn (tb ++ tc) y = joinT k [dn tb a, dn tb b] ∧ ∀ c, c = 0 ∨ 17 ≤ c → M' c = M c := by
  obtain ⟨c1, c2⟩ := PT_cap h.1 hP
  have w1 := wdt_MW hk (dn tb a)
  have w2 := wdt_MW hk (dn tb b)
  obtain ⟨y, M', tc, e, f, i, d, l, -, t, o⟩ := two_ok h hk ha hb (by omega) ⟨by omega, by omega⟩
  refine ⟨y, M', tc, joinT k [dn tb a, dn tb b] :: D, e, f, ?_, by simp, i, d, fun c hc => o c (by omega)⟩
  have hm' := PT_mono (joinT k [dn tb a, dn tb b]) hP
  intro u hu
  rcases List.mem_append.mp hu with hu | hu
  · exact hm' u hu
  · rw [t u hu]
    have hA : allAR [dn tb a, dn tb b] := fun x hx => by
      rcases List.mem_cons.mp hx with rfl | hx
      · exact dn_AR h.1 ha
      · rw [List.mem_singleton.mp hx]; exact dn_AR h.1 hb
    have hN : ∀ x ∈ [dn tb a, dn tb b], NF x := fun x hx => by
      rcases List.mem_cons.mp hx with rfl | hx
      · exact na
      · rw [List.mem_singleton.mp hx]; exact nb
    refine ⟨joinT_NF hk hA hN, Nat.le_trans (MW_joinT hk (b := MW (dn tb a) + MW (dn tb b)) (by simp; omega) (by have := MW_pos (dn tb a); omega) (fun x hx => ?_)) hm, Or.inl List.mem_cons_self⟩
    rcases List.mem_cons.mp hx with rfl | hx
    · omega
    · rw [List.mem_singleton.mp hx]; omega
theorem two_mem {p : T → Prop} {a b : T} (ha : p a) (hb : p b) : ∀ x ∈ [a, b], p x := fun x hx => by
  rcases List.mem_cons.mp hx with rfl | hx
  · exact ha
  · rw [List.mem_singleton.mp hx]; exact hb
theorem isF_cases {c : Nat} (h : isF c = true) : c = 33 ∨ c = 88 ∨ c = 78 ∨ c = 71 ∨ c = 70 := by
  unfold isF at h
  simp at h
  omega
/-- what a sign in front makes -/
theorem unT_ok {w : Nat} {v : T} (ha : AR v = true) (hn : NF v) : AR (unT w v) = true ∧ NF (unT w v) ∧ MW (unT w v) ≤ MW v ∧ size (unT w v) ≤ size v + 2 := by
  have hp := MW_pos v
  have one : ∀ k, k = 16 ∨ k = 17 → AR (nd k [v]) = true ∧ NF (nd k [v]) ∧ MW (nd k [v]) ≤ MW v ∧ size (nd k [v]) ≤ size v + 2 := fun k hk => by
    refine ⟨(AR_nd _ _).mpr ⟨?_, fun t ht => by rw [List.mem_singleton.mp ht]; exact ha⟩, NF_un (by omega) (fun t ht => by rw [List.mem_singleton.mp ht]; exact hn), by rw [MW_un (by omega)]; exact hp, by rw [size_nd]; simp; omega⟩
    unfold arity
    rw [if_neg (by omega), if_pos (by omega)]; rfl
  have two : ∀ k i, k = 18 ∨ k = 19 → i < 16 → AR (nd k [lf i, v]) = true ∧ NF (nd k [lf i, v]) ∧ MW (nd k [lf i, v]) ≤ MW v ∧ size (nd k [lf i, v]) ≤ size v + 2 := fun k i hk hi => by
    refine ⟨(AR_nd _ _).mpr ⟨?_, two_mem (p := fun t => AR t = true) (AR_lf hi) ha⟩, NF_un (by omega) (two_mem (NF_lf i hi) hn), by rw [MW_un (by omega)]; exact hp, by rw [size_nd]; simp [size_lf]; omega⟩
    unfold arity
    rw [if_neg (by omega), if_neg (by omega), if_pos (by omega)]; rfl
  unfold unT
  split
  · exact ⟨opp_AR v ha, (opp_NF v ha hn).1, MW_opp v ha hn, by have := size_opp v ha; omega⟩
  · split
    · exact two 19 0 (Or.inr rfl) (by omega)
    · split
      · exact one 17 (Or.inr rfl)
      · split
        · exact one 16 (Or.inl rfl)
        · exact two 18 1 (Or.inl rfl) (by omega)
theorem biT_ok {w : Nat} {a b : T} (ha : AR a = true) (hn : NF a) (hb : AR b = true) (hm : NF b) : AR (biT w a b) = true ∧ NF (biT w a b) ∧ MW (biT w a b) ≤ MW a + MW b ∧ size (biT w a b) ≤ size a + size b + 2 := by
  have pa := MW_pos a
  have pb := MW_pos b
  have hA : allAR [a, b] := two_mem (p := fun t => AR t = true) ha hb
  have jn : ∀ k, k = 20 ∨ k = 21 → AR (joinT k [a, b]) = true ∧ NF (joinT k [a, b]) ∧ MW (joinT k [a, b]) ≤ MW a + MW b ∧ size (joinT k [a, b]) ≤ size a + size b + 2 := fun k hk => by
    have w1 := wdt_MW hk a
    have w2 := wdt_MW hk b
    refine ⟨joinT_AR hk hA, joinT_NF hk hA (two_mem hn hm), MW_joinT hk (by simp; omega) (by omega) (two_mem (p := fun x => MW x ≤ _) (by omega) (by omega)), ?_⟩
    have := joinT_size k [a, b]
    simp at this
    omega
  have two : ∀ k, k = 18 ∨ k = 19 → AR (nd k [a, b]) = true ∧ NF (nd k [a, b]) ∧ MW (nd k [a, b]) ≤ MW a + MW b ∧ size (nd k [a, b]) ≤ size a + size b + 2 := fun k hk => by
    refine ⟨(AR_nd _ _).mpr ⟨?_, hA⟩, NF_un (by omega) (two_mem hn hm), by rw [MW_un (by omega)]; omega, by rw [size_nd]; simp; omega⟩
    unfold arity
    rw [if_neg (by omega), if_neg (by omega), if_pos (by omega)]; rfl
  unfold biT
  split
  · exact jn 20 (Or.inl rfl)
  · split
    · exact two 19 (Or.inr rfl)
    · split
      · exact two 18 (Or.inl rfl)
      · exact jn 21 (Or.inr rfl)
