/-! Forms.order: the sign of the difference of the first two characters that differ -/
def Cmp (v : Int32) (A B : T) : Prop := (A = B ∧ v = nI 0) ∨ (A ≠ B ∧ ∃ c d c' d', c < 1073741824 ∧ d < 1073741824 ∧ v = nI c - nI d ∧ Df (txt A) (txt B) c' d' ∧ (c < d ↔ c' < d') ∧ (d < c ↔ d' < c'))
theorem Cmp.pos {v : Int32} {A B : T} (h : Cmp v A B) : (nI 0 < v) ↔ ah B A = true := by
  rcases h with ⟨rfl, rfl⟩ | ⟨-, c, d, c', d', h1, h2, rfl, h3, -, h4⟩
  · rw [ah_irr, nlt (by omega) (by omega)]
    simp
  · rw [pos_sub h1 h2, h4]
    unfold ah
    rw [lxl_df h3.sym]
    simp
theorem Cmp.desc {v : Int32} {A B x y : T} (h : Cmp v x y) (hxy : x ≠ y) (hAB : A ≠ B) (hd : ∀ c d, Df (txt x) (txt y) c d → Df (txt A) (txt B) c d) : Cmp v A B := by
  rcases h with ⟨e, -⟩ | ⟨-, c, d, c', d', h1, h2, h3, h4, h5⟩
  · exact absurd e hxy
  · exact Or.inr ⟨hAB, c, d, c', d', h1, h2, h3, hd _ _ h4, h5⟩
theorem Cmp.df {A B : T} {c d : Nat} (h : Df (txt A) (txt B) c d) (hAB : A ≠ B) (h1 : c < 1073741824) (h2 : d < 1073741824) : Cmp (nI c - nI d) A B := Or.inr ⟨hAB, c, d, c, d, h1, h2, rfl, h, Iff.rfl, Iff.rfl⟩
theorem lfc_lt (k : Nat) : lfc k < 128 := by
  by_cases h : k < 16
  · have q : ∀ k, k < 16 → lfc k < 128 := by decide +kernel
    exact q k h
  · unfold lfc
    rw [List.getD_eq_getElem?_getD, List.getElem?_eq_none (by simp; omega)]
    decide
theorem fl_lt (t : T) : fl t < 128 := by
  have := lfc_lt (kind t)
  unfold fl
  split
  · exact this
  · split
    · omega
    · split
      · omega
      · split <;> omega
theorem sepc_lt (k : Nat) : sepc k < 128 := by
  unfold sepc
  split
  · omega
  · split
    · omega
    · split <;> omega
theorem sepf_n {k : Nat} (h1 : 18 ≤ k) (h2 : k ≤ 21) : sepf k = nI (sepc k) := by
  have q : ∀ k, k < 22 → 18 ≤ k → sepf k = nI (sepc k) := by decide +kernel
  exact q k (by omega) h1
theorem ord108 {k8 : Int32 → Int32 → Int32 → Mem → Option Rv} {M : Mem} {a b sa sb few : Nat} {ka kb : Nat → Nat} {d : Int32} (ha : a < 2048) (hb : b < 2048) (h3a : M 3 a = nI sa) (h3b : M 3 b = nI sb) (hsa : sa + few ≤ 8192) (hsb : sb + few ≤ 8192) (hka : ∀ i, i < few → M 9 (sa + i) = nI (ka i) ∧ ka i < 2048) (hkb : ∀ i, i < few → M 9 (sb + i) = nI (kb i) ∧ kb i < 2048) :
    ∀ (n j : Nat), few < n + j → j ≤ few → (∀ i, i < j → ka i = kb i) → ∃ J, J ≤ few ∧ (∀ i, i < J → ka i = kb i) ∧ (J < few → ka J ≠ kb J) ∧ f_X1_order_108 k8 n (nI a) (nI b) d (nI few) (nI j) M = f_X1_order_153 k8 (nI a) (nI b) d (nI few) (nI J) M := by
  intro n
  induction n with
  | zero => intro j h1 h2; omega
  | succ n ih =>
    intro j h1 h2 hj
    rw [f_X1_order_108]
    by_cases hjf : j < few
    · obtain ⟨ea, la⟩ := hka j hjf
      obtain ⟨eb, lb⟩ := hkb j hjf
      simp (disch := omega) only [nlt, hjf, if_true, mrd_n, Option.bind_some, h3a, h3b, nI_add, ea, eb, neq]
      by_cases hk : ka j = kb j
      · rw [if_pos hk]
        exact ih (j + 1) (by omega) (by omega) (fun i hi => by
          by_cases hij : i = j
          · rw [hij]; exact hk
          · exact hj i (by omega))
      · rw [if_neg hk]
        exact ⟨j, by omega, hj, fun _ => hk, rfl⟩
    · simp (disch := omega) only [nlt, hjf, if_false]
      exact ⟨j, h2, hj, fun h => absurd h hjf, rfl⟩
theorem order_8 {M : Mem} {tb : List T} (h : FT M tb) : ∀ (n a b d : Nat), a < n → d + a < 2048 → a < 16 + tb.length → b < 16 + tb.length → ∃ v, f_X1_order_8 n (nI a) (nI b) (nI d) M = some (v, M) ∧ Cmp v (dn tb a) (dn tb b) := by
  intro n
  induction n with
  | zero => intro a b d h1; omega
  | succ n ih =>
    intro a b d h1 h2 ha hb
    have hl := h.2.1
    have hok := h.1
    have hst := h.2.2.1
    have aa := h.2.2.2.2.2.1 a ha
    have ab := h.2.2.2.2.2.1 b hb
    have hAA := dn_AR hok ha
    have hBA := dn_AR hok hb
    have fA := fl_lt (dn tb a)
    have fB := fl_lt (dn tb b)
    rw [f_X1_order_8]
    by_cases hab : a = b
    · subst hab
      simp (disch := omega) only [nlt, if_true, show d < 2048 by omega]
      exact ⟨nI 0, rfl, Or.inl ⟨rfl, rfl⟩⟩
    · have hne : dn tb a ≠ dn tb b := fun e => hab (dn_inj hok ha hb e)
      simp (disch := omega) only [nlt, neq, if_true, show d < 2048 by omega, hab, if_false, mrd_n, Option.bind_some, aa.2.2.2.2.2, ab.2.2.2.2.2]
      by_cases hfl : fl (dn tb a) = fl (dn tb b)
      · simp only [hfl, if_true]
        have kA := dn_kind hok ha
        have kB := dn_kind hok hb
        by_cases ha16 : a < 16
        · simp only [ha16, if_true]
          have e1 := kA.1 ha16
          rcases fl_eq hAA hBA hfl hne with ⟨g1, g2, g3, g4⟩ | g | g | g
          · have hb16 : b < 16 := Nat.not_le.mp (fun q => by have := kB.2 q; omega)
            have e2 := kB.1 hb16
            refine ⟨_, rfl, Or.inr ⟨hne, a, b, _, _, by omega, by omega, rfl, df_leaf hAA hBA hne g1 g2 g3 g4, ?_, ?_⟩⟩
            · rw [e1, e2]; omega
            · rw [e1, e2]; omega
          · omega
          · omega
          · omega
        · simp only [ha16, if_false]
          have e1 := kA.2 (by omega)
          have hb16 : ¬ b < 16 := fun q => by
            have := kB.1 q
            rcases fl_eq hAA hBA hfl hne with g | g | g | g <;> omega
          have e2 := kB.2 (by omega)
          simp only [hb16, if_false]
          obtain ⟨sa, ka, k1, k2, k3⟩ := FT_kids h (by omega) ha
          obtain ⟨sb, kb, k4, k5, k6⟩ := FT_kids h (by omega) hb
          simp (disch := omega) only [mrd_n, Option.bind_some, aa.2.1, ab.2.1, nlt]
          -- both ways: the fewer
          have main : ∀ few, few ≤ nkid (dn tb a) → few ≤ nkid (dn tb b) → (few = nkid (dn tb a) ∨ few = nkid (dn tb b)) → ∃ v, f_X1_order_103 (f_X1_order_8 n) (nI a) (nI b) (nI d) (nI few) M = some (v, M) ∧ Cmp v (dn tb a) (dn tb b) := by
            intro few f1 f2 f3
            obtain ⟨J, j1, j2, j3, j4⟩ := ord108 (k8 := f_X1_order_8 n) (d := nI d) (M := M) (a := a) (b := b) (sa := sa) (sb := sb) (few := few) (ka := ka) (kb := kb) (by omega) (by omega) k1 k4 (by omega) (by omega) (fun i hi => ⟨(k3 i (by omega)).2.1, by have := (k3 i (by omega)).1; omega⟩) (fun i hi => ⟨(k6 i (by omega)).2.1, by have := (k6 i (by omega)).1; omega⟩) fuelN 0 (by unfold fuelN; omega) (by omega) (fun i hi => by omega)
            unfold f_X1_order_103
            rw [j4]
            have kidA : ∀ i (hi : i < nkid (dn tb a)), (kids (dn tb a))[i] = dn tb (ka i) := fun i hi => (k3 i hi).2.2.symm
            have kidB : ∀ i (hi : i < nkid (dn tb b)), (kids (dn tb b))[i] = dn tb (kb i) := fun i hi => (k6 i hi).2.2.symm
            have kle : kind (dn tb a) ≤ 21 ∧ kind (dn tb b) ≤ 21 := ⟨AR_le hAA, AR_le hBA⟩
            -- the place where they part
            have desc : J < few → f_X1_order_197 (f_X1_order_8 n) (nI a) (nI b) (nI d) (nI few) (nI J) M = f_X1_order_8 n (nI (ka J)) (nI (kb J)) (nI (d + 1)) M := by
              intro hJ
              unfold f_X1_order_197
              simp (disch := omega) only [neq, show ¬ J = few by omega, if_false, mrd_n, Option.bind_some, k1, k4, nI_add, (k3 J (by omega)).2.1, (k6 J (by omega)).2.1]
            have rec' : J < few → ∃ v, f_X1_order_8 n (nI (ka J)) (nI (kb J)) (nI (d + 1)) M = some (v, M) ∧ Cmp v (dn tb (ka J)) (dn tb (kb J)) := fun hJ => by
              have q1 := (k3 J (by omega)).1
              have q2 := (k6 J (by omega)).1
              exact ih (ka J) (kb J) (d + 1) (by omega) (by omega) (by omega) (by omega)
            have kne : J < few → dn tb (ka J) ≠ dn tb (kb J) := fun hJ e => by
              have q1 := (k3 J (by omega)).1
              have q2 := (k6 J (by omega)).1
              exact j3 hJ (dn_inj hok (by omega) (by omega) e)
            by_cases hJ0 : J = 0
            · subst hJ0
              unfold f_X1_order_153
              simp (disch := omega) only [nlt, Nat.lt_irrefl, if_false]
              have hfew : 0 < few := by
                rcases AR_kind hAA with q | ⟨-, x, q⟩ | ⟨-, x, y, q⟩ | ⟨-, x, y, l, q⟩
                · omega
                all_goals
                  rcases AR_kind hBA with r | ⟨-, x', r⟩ | ⟨-, x', y', r⟩ | ⟨-, x', y', l', r⟩
                  · omega
                  all_goals
                    unfold nkid at f3
                    rw [q, r] at f3
                    simp at f3
                    omega
              rw [desc hfew]
              obtain ⟨v, hv, hc⟩ := rec' hfew
              refine ⟨v, hv, hc.desc (kne hfew) hne (fun c d' hdf => ?_)⟩
              rcases fl_eq hAA hBA hfl hne with g | ⟨g1, g2⟩ | ⟨g1, g2⟩ | ⟨g1, g2⟩
              · omega
              · rcases AR_kind hAA with q | ⟨-, x, q⟩ | q | q
                · omega
                · rcases AR_kind hBA with r | ⟨-, y, r⟩ | r | r
                  · omega
                  · have ex : x = dn tb (ka 0) := by rw [← kidA 0 (by omega)]; simp [q]
                    have ey : y = dn tb (kb 0) := by rw [← kidB 0 (by omega)]; simp [r]
                    rw [txt_un (Or.inl g1) q, txt_un (Or.inl g2) r, if_pos g1, if_pos g2, ex, ey]
                    exact hdf.cons _
                  · omega
                  · omega
                · omega
                · omega
              · rcases AR_kind hAA with q | ⟨-, x, q⟩ | q | q
                · omega
                · rcases AR_kind hBA with r | ⟨-, y, r⟩ | r | r
                  · omega
                  · have ex : x = dn tb (ka 0) := by rw [← kidA 0 (by omega)]; simp [q]
                    have ey : y = dn tb (kb 0) := by rw [← kidB 0 (by omega)]; simp [r]
                    rw [txt_un (Or.inr g1) q, txt_un (Or.inr g2) r, if_neg (by omega), if_neg (by omega), ex, ey]
                    exact hdf.cons _
                  · omega
                  · omega
                · omega
                · omega
              · have e3 : ∀ t : T, 0 < nkid t → ∃ x l, kids t = x :: l := fun t ht => by
                  unfold nkid at ht
                  cases hk : kids t with
                  | nil => rw [hk] at ht; simp at ht
                  | cons x l => exact ⟨x, l, rfl⟩
                obtain ⟨x, la, q⟩ := e3 (dn tb a) (by omega)
                obtain ⟨y, lb, r⟩ := e3 (dn tb b) (by omega)
                have ex : x = dn tb (ka 0) := by rw [← kidA 0 (by omega)]; simp [q]
                have ey : y = dn tb (kb 0) := by rw [← kidB 0 (by omega)]; simp [r]
                exact df_desc0 g1 g2 q r (by rw [ex, ey]; exact hdf)
            · -- the first forms are alike: kinds of brackets
              have eq0 : dn tb (ka 0) = dn tb (kb 0) := by rw [j2 0 (by omega)]
              obtain ⟨x, la, q⟩ : ∃ x l, kids (dn tb a) = x :: l := by
                cases hk : kids (dn tb a) with
                | nil => unfold nkid at f1; rw [hk] at f1; simp at f1; omega
                | cons x l => exact ⟨x, l, rfl⟩
              obtain ⟨y, lb, r⟩ : ∃ x l, kids (dn tb b) = x :: l := by
                cases hk : kids (dn tb b) with
                | nil => unfold nkid at f2; rw [hk] at f2; simp at f2; omega
                | cons x l => exact ⟨x, l, rfl⟩
              have ex : x = dn tb (ka 0) := by rw [← kidA 0 (by omega)]; simp [q]
              have ey : y = dn tb (kb 0) := by rw [← kidB 0 (by omega)]; simp [r]
              have exy : x = y := by rw [ex, ey, eq0]
              subst exy
              have g12 : 18 ≤ kind (dn tb a) ∧ 18 ≤ kind (dn tb b) := by
                rcases fl_eq hAA hBA hfl hne with g | ⟨g1, g2⟩ | ⟨g1, g2⟩ | g
                · omega
                · exfalso
                  rcases AR_kind hAA with q' | ⟨-, x', q'⟩ | q' | q'
                  · omega
                  · rcases AR_kind hBA with r' | ⟨-, y', r'⟩ | r' | r'
                    · omega
                    · rw [q] at q'
                      rw [r] at r'
                      cases q'
                      cases r'
                      exact hne (T_ext (by omega) (by rw [q, r]))
                    · omega
                    · omega
                  · omega
                  · omega
                · exfalso
                  rcases AR_kind hAA with q' | ⟨-, x', q'⟩ | q' | q'
                  · omega
                  · rcases AR_kind hBA with r' | ⟨-, y', r'⟩ | r' | r'
                    · omega
                    · rw [q] at q'
                      rw [r] at r'
                      cases q'
                      cases r'
                      exact hne (T_ext (by omega) (by rw [q, r]))
                    · omega
                    · omega
                  · omega
                  · omega
                · exact g
              obtain ⟨g1, g2⟩ := g12
              have sA := sepc_lt (kind (dn tb a))
              have sB := sepc_lt (kind (dn tb b))
              unfold f_X1_order_153
              simp (disch := omega) only [nlt, show 0 < J by omega, if_true, mrd_n, Option.bind_some, aa.1, ab.1, neq]
              by_cases hk : kind (dn tb a) = kind (dn tb b)
              · rw [if_pos hk]
                by_cases hJ : J < few
                · rw [desc hJ]
                  obtain ⟨v, hv, hc⟩ := rec' hJ
                  refine ⟨v, hv, hc.desc (kne hJ) hne (fun c d' hdf => ?_)⟩
                  -- alike up to J
                  have tA : kids (dn tb a) = (kids (dn tb a)).take J ++ dn tb (ka J) :: (kids (dn tb a)).drop (J + 1) := by
                    have := take_split (kids (dn tb a)) J (show J < nkid (dn tb a) by omega)
                    rw [kidA J (by omega)] at this
                    exact this
                  have tB : kids (dn tb b) = (kids (dn tb a)).take J ++ dn tb (kb J) :: (kids (dn tb b)).drop (J + 1) := by
                    have e4 : (kids (dn tb a)).take J = (kids (dn tb b)).take J := by
                      apply List.ext_getElem?
                      intro i
                      by_cases hi : i < J
                      · rw [List.getElem?_take_of_lt hi, List.getElem?_take_of_lt hi, List.getElem?_eq_getElem (show i < nkid _ by omega), List.getElem?_eq_getElem (show i < nkid _ by omega), kidA i (by omega), kidB i (by omega), j2 i hi]
                      · rw [List.getElem?_eq_none (by rw [List.length_take]; omega), List.getElem?_eq_none (by rw [List.length_take]; omega)]
                    have := take_split (kids (dn tb b)) J (show J < nkid (dn tb b) by omega)
                    rw [kidB J (by omega), ← e4] at this
                    exact this
                  have tK : (kids (dn tb a)).take J = x :: la.take (J - 1) := by
                    rw [q]
                    obtain ⟨J', rfl⟩ : ∃ J', J = J' + 1 := ⟨J - 1, by omega⟩
                    rfl
                  rw [tK] at tA tB
                  exact df_desc g1 hk.symm tA tB hdf
                · have hJf : J = few := by omega
                  subst hJf
                  unfold f_X1_order_197
                  simp (disch := omega) only [neq, if_true, mrd_n, Option.bind_some, aa.2.1]
                  have all : ∀ i, i < J → ∀ (h1 : i < nkid (dn tb a)) (h2 : i < nkid (dn tb b)), (kids (dn tb a))[i] = (kids (dn tb b))[i] := fun i hi h1 h2 => by rw [kidA i h1, kidB i h2, j2 i hi]
                  have hlne : nkid (dn tb a) ≠ nkid (dn tb b) := fun e => by
                    refine hne (T_ext hk (List.ext_getElem e (fun i h1 h2 => ?_)))
                    have h1' : i < nkid (dn tb a) := h1
                    exact all i (by omega) h1 h2
                  by_cases hA : nkid (dn tb a) = J
                  · rw [if_pos hA]
                    unfold f_X1_order_230
                    have hB : ¬ nkid (dn tb b) = J := by omega
                    simp (disch := omega) only [mrd_n, Option.bind_some, ab.2.1, neq, hB, if_false, ab.1, mrs_n, sepf_n]
                    have tB : kids (dn tb b) = kids (dn tb a) ++ (kids (dn tb b)).drop J := by
                      have e4 : kids (dn tb a) = (kids (dn tb b)).take J := by
                        apply List.ext_getElem?
                        intro i
                        by_cases hi : i < J
                        · rw [List.getElem?_take_of_lt hi, List.getElem?_eq_getElem (show i < nkid _ by omega), List.getElem?_eq_getElem (show i < nkid _ by omega), all i hi (by omega) (by omega)]
                        · rw [List.getElem?_eq_none (show nkid (dn tb a) ≤ i by omega), List.getElem?_eq_none (by rw [List.length_take]; omega)]
                      conv => rhs; rw [e4]
                      rw [List.take_append_drop]
                    rw [q, List.drop_eq_getElem_cons (show J < nkid (dn tb b) by omega)] at tB
                    refine ⟨_, rfl, ?_⟩
                    have := df_more g1 hk.symm q tB
                    rw [hk] at this
                    exact Cmp.df this hne (by omega) (by omega)
                  · rw [if_neg hA]
                    have hB : nkid (dn tb b) = J := by omega
                    unfold f_X1_order_230
                    simp (disch := omega) only [mrd_n, Option.bind_some, ab.2.1, neq, hB, if_true, aa.1, mrs_n, sepf_n]
                    have tA : kids (dn tb a) = kids (dn tb b) ++ (kids (dn tb a)).drop J := by
                      have e4 : kids (dn tb b) = (kids (dn tb a)).take J := by
                        apply List.ext_getElem?
                        intro i
                        by_cases hi : i < J
                        · rw [List.getElem?_take_of_lt hi, List.getElem?_eq_getElem (show i < nkid _ by omega), List.getElem?_eq_getElem (show i < nkid _ by omega), all i hi (by omega) (by omega)]
                        · rw [List.getElem?_eq_none (show nkid (dn tb b) ≤ i by omega), List.getElem?_eq_none (by rw [List.length_take]; omega)]
                      conv => rhs; rw [e4]
                      rw [List.take_append_drop]
                    rw [r, List.drop_eq_getElem_cons (show J < nkid (dn tb a) by omega)] at tA
                    refine ⟨_, rfl, ?_⟩
                    have := df_more g2 hk r tA
                    rw [← hk] at this
                    exact Cmp.df this.sym hne (by omega) (by omega)
              · simp (disch := omega) only [hk, if_false, mrs_n, Option.bind_some, sepf_n]
                exact ⟨_, rfl, Cmp.df (df_sep hAA hBA g1 g2 hk q r) hne (by omega) (by omega)⟩
          by_cases hlt : nkid (dn tb a) < nkid (dn tb b)
          · rw [if_pos hlt]
            exact main _ (by omega) (by omega) (Or.inl rfl)
          · rw [if_neg hlt]
            exact main _ (by omega) (by omega) (Or.inr rfl)
      · simp only [hfl, if_false]
        exact ⟨_, rfl, Cmp.df (df_fl hfl) hne (by omega) (by omega)⟩
theorem order_ok {M : Mem} {tb : List T} (h : FT M tb) {a b : Nat} (ha : a < 16 + tb.length) (hb : b < 16 + tb.length) : ∃ v, f_X1_order (nI a) (nI b) M = some (v, M) ∧ ((nI 0 < v) ↔ ah (dn tb b) (dn tb a) = true) := by
  have hl := h.2.1
  obtain ⟨v, h1, h2⟩ := order_8 h fuelN a b 0 (by unfold fuelN; omega) (by omega) ha hb
  exact ⟨v, h1, h2.pos⟩
