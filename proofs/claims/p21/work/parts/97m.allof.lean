/-! join(): all the parts of a wish together -/
def subs (l : List T) : List T := (l.map subl).flatten
theorem subs_mem {l : List T} {t x : T} (ht : t ∈ l) (hx : x ∈ subl t) : x ∈ subs l := List.mem_flatten.mpr ⟨subl t, List.mem_map_of_mem ht, hx⟩
theorem subs_len (l : List T) : (subs l).length = ssum l := by
  rw [← sum_const]
  unfold subs
  rw [sum_flatten]
  simp only [subl_one]
  rfl
theorem subs_nkid (l : List T) : ((subs l).map nkid).sum ≤ ssum l := by
  unfold subs
  rw [sum_flatten]
  exact sum_le_map _ _ l (fun t _ => by have := subl_nkid t; omega)
theorem nkid_lt (t : T) : nkid t < size t := by
  have h1 := len_le_size (kids t)
  have h2 := size_eq t
  show (kids t).length < size t
  omega
theorem jT_size {k : Nat} {l : List T} (hl : okP l) : size (joinT k l) ≤ 961 := by
  have h1 := joinT_size k l
  have h2 := ssum_le hl
  unfold ssum at h2
  omega
def unv (l1 l2 : List T) : List T := subs l1 ++ (joinT 20 l1 :: (subs l2 ++ [joinT 20 l2]))
theorem unv_len {l1 l2 : List T} (h1 : okP l1) (h2 : okP l2) : (unv l1 l2).length ≤ 2000 := by
  unfold unv
  rw [List.length_append, List.length_cons, List.length_append, subs_len, subs_len]
  have := ssum_le h1
  have := ssum_le h2
  simp only [List.length_cons, List.length_nil]
  omega
theorem unv_nkid {l1 l2 : List T} (h1 : okP l1) (h2 : okP l2) : ((unv l1 l2).map nkid).sum ≤ 4000 := by
  unfold unv
  rw [List.map_append, List.sum_append, List.map_cons, List.sum_cons, List.map_append, List.sum_append]
  have a1 := ssum_le h1
  have a2 := ssum_le h2
  have b1 := subs_nkid l1
  have b2 := subs_nkid l2
  have c1 := nkid_lt (joinT 20 l1)
  have c2 := nkid_lt (joinT 20 l2)
  have d1 := jT_size (k := 20) h1
  have d2 := jT_size (k := 20) h2
  simp only [List.map_cons, List.map_nil, List.sum_cons, List.sum_nil]
  omega
/-- the room in a table whose forms lie in U -/
theorem room {tb U : List T} (hok : okT tb) (hT : ∀ x ∈ tb, x ∈ U) (hl : U.length ≤ 2000) (hk : (U.map nkid).sum ≤ 4000) : tb.length ≤ 2000 ∧ stof tb tb.length ≤ 4000 := by
  have h1 := nodup_len hok.1 hT
  have h2 := nodup_sum nkid hok.1 hT
  rw [← stof_all] at h2
  exact ⟨by omega, by omega⟩
theorem items_bound {l : List T} (h : ∀ t ∈ l, size t ≤ 120) : (items 20 l).length ≤ 120 * l.length := by
  induction l with
  | nil => exact Nat.zero_le _
  | cons t l ih =>
    rw [items_cons, List.length_append, its1_len, List.length_cons]
    have h1 := ih (fun x hx => h x (List.mem_cons_of_mem _ hx))
    have h2 := h t List.mem_cons_self
    have h3 := wdt_le 20 t
    omega
theorem items_snoc (l : List T) (t : T) : items 20 (l ++ [t]) = items 20 l ++ its1 20 t := by
  induction l with
  | nil => rw [List.nil_append, items_cons, items_nil, List.append_nil, List.nil_append]
  | cons a l ih => rw [List.cons_append, items_cons, ih, items_cons, List.append_assoc]
theorem items_take {l : List T} {p : Nat} (h : p < l.length) : items 20 (l.take (p + 1)) = items 20 (l.take p) ++ its1 20 l[p] := by
  rw [List.take_succ_eq_append_getElem h, items_snoc]
theorem take_bound {l : List T} (hl : okP l) (p : Nat) : (items 20 (l.take p)).length ≤ 960 := by
  have h1 := items_bound (l := l.take p) (fun t ht => (hl.2.2 t (List.mem_of_mem_take ht)).2)
  rw [List.length_take] at h1
  have := hl.2.1
  omega
theorem cao_11 {U : List T} {cw : Nat} {w : Wsh} (hx : 20 ≤ cw) (hw : okW w) (hUl : U.length ≤ 2000) (hUk : (U.map nkid).sum ≤ 4000) (hS : ∀ t ∈ wP w, ∀ x ∈ subl t, x ∈ U) (hJU : joinT 20 (wP w) ∈ U) : ∀ (n p : Nat) (M : Mem) (tb : List T), p ≤ (wP w).length → (wP w).length - p < n → FT M tb → RCw M cw w → (∀ x ∈ tb, x ∈ U) → JS M tb 20 (items 20 ((wP w).take p)) → ∃ (id : Nat) (M' : Mem) (tc : List T), f_X6_allOfParts_11 n cw (nI p) M = some (nI id, M') ∧ FT M' (tb ++ tc) ∧ id < 16 + (tb ++ tc).length ∧ dn (tb ++ tc) id = joinT 20 (wP w) ∧ (∀ x ∈ tb ++ tc, x ∈ U) ∧ FQ M M' := by
  have h8 := hw.2.2.2.1
  have hU : UB U := ⟨by omega, by omega⟩
  intro n
  induction n with
  | zero => intro p M tb _ h; omega
  | succ n ih =>
    intro p M tb h1 h2 hF hR hT hJ
    rw [f_X6_allOfParts_11, hR.2.2.1]
    by_cases hp : p < (wP w).length
    · have hmem := List.getElem_mem hp
      obtain ⟨t1, t2⟩ := hw.2.2.2.2 (wP w)[p] hmem
      obtain ⟨id, M1, tc, e1, f1, i1, d1, s1, o1⟩ := load_ok hx (show p < 8 by omega) hU hF t1 t2 (hS _ hmem) hT (hR.2.2.2.2.2.2 p hp)
      have hT1 : ∀ x ∈ tb ++ tc, x ∈ U := fun x hx => by
        rcases List.mem_append.mp hx with hx | hx
        · exact hT x hx
        · exact hS _ hmem x (s1 x hx)
      have hb := take_bound hw.2.2 (p + 1)
      rw [items_take hp, List.length_append, its1_len] at hb
      obtain ⟨M2, e2, f2, J2, o2⟩ := put_ok f1 (Or.inl rfl) (hJ.congr (tc := tc) (o1 13 (by omega)) (o1 15 (by omega))) i1 (by rw [d1]; omega)
      rw [d1, ← items_take hp] at J2
      have o12 : FQ M M2 := fun c hc => by rw [o2 c (by omega) (by omega), o1 c (by omega)]
      rw [if_pos ((nlt (by omega) (by omega)).mpr hp), e1, Option.bind_some]
      dsimp only
      rw [e2, Option.bind_some, nI_add]
      obtain ⟨y, M3, td, e3, f3, i3, d3, s3, o3⟩ := ih (p + 1) M2 (tb ++ tc) (by omega) (by omega) f2 (hR.q hx o12) hT1 J2
      rw [List.append_assoc] at f3 i3 d3 s3
      exact ⟨y, M3, tc ++ td, e3, f3, i3, d3, s3, o12.tr o3⟩
    · have : p = (wP w).length := by omega
      subst this
      have hb := take_bound hw.2.2 (wP w).length
      rw [List.take_length] at hJ hb
      have hrk := rowK_len 20 (items 20 (wP w))
      obtain ⟨r1, r2⟩ := room hF.1 hT hUl hUk
      obtain ⟨y, M1, tc, e1, f1, i1, d1, l1, o1⟩ := done_ok hF (Or.inl rfl) hJ (by omega) (fun _ _ => ⟨by omega, by omega⟩)
      rw [if_neg (fun q => hp ((nlt (by omega) (by omega)).mp q)), e1, Option.bind_some]
      refine ⟨y, M1, tc, rfl, f1, i1, d1, fun x hx => ?_, fun c hc => o1 c (by omega)⟩
      rcases List.mem_append.mp hx with hx | hx
      · exact hT x hx
      · rcases l1 with ⟨l1, -⟩ | ⟨l1, -⟩
        · rw [l1] at hx; cases hx
        · rw [l1] at hx
          rw [List.mem_singleton.mp hx]; exact hJU
theorem callOf_ok {U : List T} {M : Mem} {tb : List T} {cw : Nat} {w : Wsh} (hx : 20 ≤ cw) (hw : okW w) (hUl : U.length ≤ 2000) (hUk : (U.map nkid).sum ≤ 4000) (hS : ∀ t ∈ wP w, ∀ x ∈ subl t, x ∈ U) (hJU : joinT 20 (wP w) ∈ U) (hF : FT M tb) (hR : RCw M cw w) (hT : ∀ x ∈ tb, x ∈ U) : ∃ (id : Nat) (M' : Mem) (tc : List T), f_X6_allOfParts cw M = some (nI id, M') ∧ FT M' (tb ++ tc) ∧ id < 16 + (tb ++ tc).length ∧ dn (tb ++ tc) id = joinT 20 (wP w) ∧ (∀ x ∈ tb ++ tc, x ∈ U) ∧ FQ M M' := by
  obtain ⟨M1, e1, f1, J1, o1⟩ := begin_ok hF 20
  have o1' : FQ M M1 := fun c hc => o1 c (by omega)
  obtain ⟨y, M2, tc, e2, f2, i2, d2, s2, o2⟩ := cao_11 hx hw hUl hUk hS hJU fuelN 0 M1 tb (Nat.zero_le _) (by have := hw.2.2.2.1; unfold fuelN; omega) f1 (hR.q hx o1') hT (by rw [List.take_zero]; exact J1)
  unfold f_X6_allOfParts
  rw [e1, Option.bind_some]
  exact ⟨y, M2, tc, e2, f2, i2, d2, s2, o1'.tr o2⟩
/-! the same, in the model -/
def FL (M M' : Mem) : Prop := (∀ c, c = 219 ∨ c = 220 ∨ c = 221 ∨ c = 234 → M' c = M c) ∧ ∀ i, 22 ≤ i → M' 218 i = M 218 i
theorem FL.rfl' (M : Mem) : FL M M := ⟨fun _ _ => rfl, fun _ _ => rfl⟩
theorem FL.tr {A B C : Mem} (h : FL A B) (g : FL B C) : FL A C := ⟨fun c hc => by rw [g.1 c hc, h.1 c hc], fun i hi => by rw [g.2 i hi, h.2 i hi]⟩
