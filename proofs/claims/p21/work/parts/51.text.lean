/-! TEXTS AND THEIR ORDER -/
def lxl : List Nat → List Nat → Bool
  | [], [] => false
  | [], _ :: _ => true
  | _ :: _, [] => false
  | a :: x, b :: y => if a < b then true else if b < a then false else lxl x y
theorem lxl_irr : ∀ x : List Nat, lxl x x = false
  | [] => rfl
  | a :: x => by simp [lxl, lxl_irr x]
theorem lxl_asym : ∀ x y : List Nat, lxl x y = true → lxl y x = false
  | [], [], _ => rfl
  | [], _ :: _, _ => rfl
  | _ :: _, [], h => by simp [lxl] at h
  | a :: x, b :: y, h => by
    unfold lxl at h ⊢
    by_cases h1 : a < b
    · rw [if_neg (by omega), if_pos h1]
    · rw [if_neg h1] at h
      by_cases h2 : b < a
      · rw [if_pos h2] at h; cases h
      · rw [if_neg h2] at h
        rw [if_neg h2, if_neg h1]
        exact lxl_asym x y h
theorem lxl_trans : ∀ x y z : List Nat, lxl x y = true → lxl y z = true → lxl x z = true
  | [], [], _, h, _ => by simp [lxl] at h
  | _ :: _, [], _, h, _ => by simp [lxl] at h
  | _, _ :: _, [], _, h => by simp [lxl] at h
  | [], _ :: _, _ :: _, _, _ => rfl
  | a :: x, b :: y, c :: z, h1, h2 => by
    unfold lxl at h1 h2 ⊢
    by_cases a1 : a < b
    · by_cases b1 : b < c
      · rw [if_pos (by omega)]
      · rw [if_neg b1] at h2
        by_cases b2 : c < b
        · rw [if_pos b2] at h2; cases h2
        · rw [if_pos (by omega)]
    · rw [if_neg a1] at h1
      by_cases a2 : b < a
      · rw [if_pos a2] at h1; cases h1
      · rw [if_neg a2] at h1
        by_cases b1 : b < c
        · rw [if_pos (by omega)]
        · rw [if_neg b1] at h2
          by_cases b2 : c < b
          · rw [if_pos b2] at h2; cases h2
          · rw [if_neg b2] at h2
            rw [if_neg (by omega), if_neg (by omega)]
            exact lxl_trans x y z h1 h2
theorem lxl_tri : ∀ x y : List Nat, lxl x y = false → lxl y x = false → x = y
  | [], [], _, _ => rfl
  | [], _ :: _, h, _ => by simp [lxl] at h
  | _ :: _, [], _, h => by simp [lxl] at h
  | a :: x, b :: y, h1, h2 => by
    unfold lxl at h1 h2
    by_cases a1 : a < b
    · rw [if_pos a1] at h1; cases h1
    · rw [if_neg a1] at h1
      by_cases a2 : b < a
      · rw [if_pos a2] at h2; cases h2
      · rw [if_neg a2] at h1 h2
        rw [if_neg a1] at h2
        have : a = b := by omega
        subst this
        rw [lxl_tri x y h1 h2]
/-- the first place where two texts differ, with the characters there -/
def Df (x y : List Nat) (c d : Nat) : Prop := c ≠ d ∧ ∃ p r s, x = p ++ c :: r ∧ y = p ++ d :: s
theorem Df.pre {x y : List Nat} {c d : Nat} (p : List Nat) (h : Df x y c d) : Df (p ++ x) (p ++ y) c d := by
  obtain ⟨h1, q, r, s, e1, e2⟩ := h
  exact ⟨h1, p ++ q, r, s, by rw [e1, List.append_assoc], by rw [e2, List.append_assoc]⟩
theorem Df.cons {x y : List Nat} {c d : Nat} (a : Nat) (h : Df x y c d) : Df (a :: x) (a :: y) c d := Df.pre [a] h
theorem Df.app {x y : List Nat} {c d : Nat} (u v : List Nat) (h : Df x y c d) : Df (x ++ u) (y ++ v) c d := by
  obtain ⟨h1, q, r, s, e1, e2⟩ := h
  exact ⟨h1, q, r ++ u, s ++ v, by rw [e1, List.append_assoc]; rfl, by rw [e2, List.append_assoc]; rfl⟩
theorem Df.head {x y : List Nat} {c d : Nat} (h : c ≠ d) : Df (c :: x) (d :: y) c d := ⟨h, [], x, y, rfl, rfl⟩
theorem Df.sym {x y : List Nat} {c d : Nat} (h : Df x y c d) : Df y x d c := by
  obtain ⟨h1, q, r, s, e1, e2⟩ := h
  exact ⟨fun e => h1 e.symm, q, s, r, e2, e1⟩
theorem lxl_df {x y : List Nat} {c d : Nat} (h : Df x y c d) : lxl x y = decide (c < d) := by
  obtain ⟨h1, p, r, s, rfl, rfl⟩ := h
  induction p with
  | nil =>
    show (if c < d then true else if d < c then false else lxl r s) = _
    by_cases h2 : c < d
    · rw [if_pos h2]; simp [h2]
    · rw [if_neg h2, if_pos (by omega)]; simp [h2]
  | cons a p ih =>
    show (if a < a then true else if a < a then false else lxl (p ++ c :: r) (p ++ d :: s)) = _
    rw [if_neg (by omega), if_neg (by omega)]
    exact ih
theorem Df.ne {x y : List Nat} {c d : Nat} (h : Df x y c d) : x ≠ y := by
  intro e
  subst e
  have h1 := lxl_df h
  have h2 := lxl_df h.sym
  rw [lxl_irr] at h1 h2
  have := h.1
  simp at h1 h2
  omega
theorem AR_nd (k : Nat) (ts : List T) : AR (nd k ts) = true ↔ arity k ts.length = true ∧ ∀ t ∈ ts, AR t = true := by
  unfold AR
  rw [tfold_nd]
  simp
theorem AR_kid {t x : T} (h : AR t = true) (hx : x ∈ kids t) : AR x = true := by
  rw [← nd_eta t] at h
  exact ((AR_nd _ _).mp h).2 x hx
theorem AR_kind {t : T} (h : AR t = true) : (kind t < 16 ∧ kids t = []) ∨ ((kind t = 16 ∨ kind t = 17) ∧ ∃ x, kids t = [x]) ∨ ((kind t = 18 ∨ kind t = 19) ∧ ∃ x y, kids t = [x, y]) ∨ ((kind t = 20 ∨ kind t = 21) ∧ ∃ x y l, kids t = x :: y :: l) := by
  rw [← nd_eta t] at h
  have h1 := ((AR_nd _ _).mp h).1
  unfold arity at h1
  by_cases a : kind t < 16
  · rw [if_pos a] at h1
    exact Or.inl ⟨a, List.length_eq_zero_iff.mp (by simpa using h1)⟩
  · rw [if_neg a] at h1
    by_cases b : kind t < 18
    · rw [if_pos b] at h1
      refine Or.inr (Or.inl ⟨by omega, ?_⟩)
      exact List.length_eq_one_iff.mp (by simpa using h1)
    · rw [if_neg b] at h1
      by_cases c : kind t < 20
      · rw [if_pos c] at h1
        refine Or.inr (Or.inr (Or.inl ⟨by omega, ?_⟩))
        match hk : kids t, h1 with
        | [x, y], _ => exact ⟨x, y, rfl⟩
        | [], h1 => simp at h1
        | [_], h1 => simp at h1
        | _ :: _ :: _ :: _, h1 => simp at h1
      · rw [if_neg c] at h1
        simp only [Bool.and_eq_true] at h1
        have h2 := Nat.ble_eq.mp h1.1
        have h3 := Nat.ble_eq.mp h1.2
        refine Or.inr (Or.inr (Or.inr ⟨by omega, ?_⟩))
        match hk : kids t, h3 with
        | x :: y :: l, _ => exact ⟨x, y, l, rfl⟩
        | [], h3 => simp at h3
        | [_], h3 => simp at h3
theorem AR_le {t : T} (h : AR t = true) : kind t ≤ 21 := by
  rcases AR_kind h with h | h | h | h <;> omega
theorem AR_leaf {t : T} (h : AR t = true) (hk : kind t < 16) : t = lf (kind t) := by
  rcases AR_kind h with h | h | h | h
  · exact T_ext rfl (by rw [h.2]; rfl)
  · omega
  · omega
  · omega
theorem AR_lf {k : Nat} (h : k < 16) : AR (lf k) = true := by
  unfold lf
  rw [AR_nd]
  refine ⟨?_, fun t ht => by cases ht⟩
  unfold arity
  rw [if_pos h]
  rfl
theorem kind_lf (k : Nat) : kind (lf k) = k := rfl
theorem kids_lf (k : Nat) : kids (lf k) = [] := kids_nd k []
theorem txt_nd (k : Nat) (ts : List T) : txt (nd k ts) = if k < 10 then [lfc k] else if k < 16 then [45, lfc k] else if k = 16 then 88 :: (ts.map txt).headD [] else if k = 17 then 78 :: (ts.map txt).headD [] else 40 :: ((ts.map txt).headD [] ++ rest (sepc k) (ts.map txt).tail) := by
  unfold txt
  rw [tfold_nd]
theorem txt_eq (t : T) : txt t = if kind t < 10 then [lfc (kind t)] else if kind t < 16 then [45, lfc (kind t)] else if kind t = 16 then 88 :: ((kids t).map txt).headD [] else if kind t = 17 then 78 :: ((kids t).map txt).headD [] else 40 :: (((kids t).map txt).headD [] ++ rest (sepc (kind t)) ((kids t).map txt).tail) := by
  rw [← txt_nd, nd_eta]
/-- the first character of a text -/
def fl (t : T) : Nat := if kind t < 10 then lfc (kind t) else if kind t < 16 then 45 else if kind t = 16 then 88 else if kind t = 17 then 78 else 40
theorem txt_fl (t : T) : ∃ r, txt t = fl t :: r := by
  rw [txt_eq]
  unfold fl
  by_cases a : kind t < 10
  · rw [if_pos a, if_pos a]; exact ⟨_, rfl⟩
  · rw [if_neg a, if_neg a]
    by_cases b : kind t < 16
    · rw [if_pos b, if_pos b]; exact ⟨_, rfl⟩
    · rw [if_neg b, if_neg b]
      by_cases c : kind t = 16
      · rw [if_pos c, if_pos c]; exact ⟨_, rfl⟩
      · rw [if_neg c, if_neg c]
        by_cases d : kind t = 17
        · rw [if_pos d, if_pos d]; exact ⟨_, rfl⟩
        · rw [if_neg d, if_neg d]; exact ⟨_, rfl⟩
theorem df_fl {a b : T} (h : fl a ≠ fl b) : Df (txt a) (txt b) (fl a) (fl b) := by
  obtain ⟨r, h1⟩ := txt_fl a
  obtain ⟨s, h2⟩ := txt_fl b
  rw [h1, h2]
  exact Df.head h
theorem lfc_small' : ∀ i, i < 10 → ∀ j, j < 10 → lfc i = lfc j → i = j := by decide +kernel
theorem lfc_small (i j : Nat) (hi : i < 10) (hj : j < 10) (h : lfc i = lfc j) : i = j := lfc_small' i hi j hj h
theorem lfc_small45 : ∀ i, i < 10 → lfc i ≠ 45 ∧ lfc i ≠ 88 ∧ lfc i ≠ 78 ∧ lfc i ≠ 40 := by decide +kernel
theorem lfc_big : ∀ i, 10 ≤ i → i < 16 → lfc i = 87 + i := by
  intro i h1 h2
  have h : ∀ i, i < 16 → 10 ≤ i → lfc i = 87 + i := by decide +kernel
  exact h i h2 h1
/-- the same first character: the same leaf, two opposites, or the same shape of kind -/
theorem fl_eq {a b : T} (ha : AR a = true) (hb : AR b = true) (h : fl a = fl b) (hne : a ≠ b) : (10 ≤ kind a ∧ kind a < 16 ∧ 10 ≤ kind b ∧ kind b < 16) ∨ (kind a = 16 ∧ kind b = 16) ∨ (kind a = 17 ∧ kind b = 17) ∨ (18 ≤ kind a ∧ 18 ≤ kind b) := by
  have la := AR_le ha
  have lb := AR_le hb
  unfold fl at h
  by_cases a1 : kind a < 10
  · rw [if_pos a1] at h
    have q := lfc_small45 _ a1
    by_cases b1 : kind b < 10
    · rw [if_pos b1] at h
      have e := lfc_small _ _ a1 b1 h
      exact absurd (by rw [AR_leaf ha (by omega), AR_leaf hb (by omega), e]) hne
    · rw [if_neg b1] at h
      split at h
      · exact absurd h q.1
      · split at h
        · exact absurd h q.2.1
        · split at h
          · exact absurd h q.2.2.1
          · exact absurd h q.2.2.2
  · rw [if_neg a1] at h
    by_cases b1 : kind b < 10
    · rw [if_pos b1] at h
      have q := lfc_small45 _ b1
      split at h
      · exact absurd h.symm q.1
      · split at h
        · exact absurd h.symm q.2.1
        · split at h
          · exact absurd h.symm q.2.2.1
          · exact absurd h.symm q.2.2.2
    · rw [if_neg b1] at h
      split at h <;> split at h <;> first | omega | (split at h <;> first | omega | (split at h <;> first | omega | (split at h <;> first | omega | (split at h <;> omega))))
theorem df_leaf {a b : T} (ha : AR a = true) (hb : AR b = true) (hne : a ≠ b) (h1 : 10 ≤ kind a) (h2 : kind a < 16) (h3 : 10 ≤ kind b) (h4 : kind b < 16) : Df (txt a) (txt b) (87 + kind a) (87 + kind b) := by
  have hk : kind a ≠ kind b := fun e => hne (by rw [AR_leaf ha h2, AR_leaf hb h4, e])
  rw [txt_eq a, txt_eq b, if_neg (by omega), if_pos h2, if_neg (by omega), if_pos h4, lfc_big _ h1 h2, lfc_big _ h3 h4]
  exact Df.cons 45 (Df.head (by omega))
theorem txt_un {t x : T} (hk : kind t = 16 ∨ kind t = 17) (hx : kids t = [x]) : txt t = (if kind t = 16 then 88 else 78) :: txt x := by
  rw [txt_eq t, if_neg (by omega), if_neg (by omega), hx]
  rcases hk with h | h
  · rw [if_pos h, if_pos h]; rfl
  · rw [if_neg (by omega), if_pos h, if_neg (by omega)]; rfl
theorem txt_br {t x : T} {l : List T} (hk : 18 ≤ kind t) (hx : kids t = x :: l) : txt t = 40 :: (txt x ++ rest (sepc (kind t)) (l.map txt)) := by
  rw [txt_eq t, if_neg (by omega), if_neg (by omega), if_neg (by omega), if_neg (by omega), hx]
  rfl
theorem rest_app (s : Nat) (p q : List (List Nat)) : rest s (p ++ q) = p.flatMap (fun x => s :: x) ++ rest s q := by
  induction p with
  | nil => rfl
  | cons x p ih =>
    rw [List.cons_append, rest, ih, List.flatMap_cons]
    simp
theorem sepc_41 (k : Nat) : sepc k ≠ 41 := by
  unfold sepc
  split
  · decide
  · split
    · decide
    · split <;> decide
theorem sepc_inj {i j : Nat} (h1 : 18 ≤ i) (h2 : i ≤ 21) (h3 : 18 ≤ j) (h4 : j ≤ 21) (h : sepc i = sepc j) : i = j := by
  have q : ∀ i, i < 22 → ∀ j, j < 22 → 18 ≤ i → 18 ≤ j → sepc i = sepc j → i = j := by decide +kernel
  exact q i (by omega) j (by omega) h1 h3 h
/-- the first forms differ -/
theorem df_desc0 {a b x y : T} {la lb : List T} {c d : Nat} (hka : 18 ≤ kind a) (hkb : 18 ≤ kind b) (ha : kids a = x :: la) (hb : kids b = y :: lb) (h : Df (txt x) (txt y) c d) : Df (txt a) (txt b) c d := by
  rw [txt_br hka ha, txt_br hkb hb]
  exact (h.app _ _).cons 40
/-- forms of the same kind, alike up to a place -/
theorem df_desc {a b x y z : T} {p la lb : List T} {c d : Nat} (hka : 18 ≤ kind a) (hkb : kind b = kind a) (ha : kids a = z :: (p ++ x :: la)) (hb : kids b = z :: (p ++ y :: lb)) (h : Df (txt x) (txt y) c d) : Df (txt a) (txt b) c d := by
  rw [txt_br hka ha, txt_br (by omega) hb, hkb, List.map_append, List.map_append, rest_app, rest_app]
  refine ((Df.pre _ (Df.pre _ ?_))).cons 40
  exact (h.app _ _).cons _
/-- the first forms are alike, the kinds not -/
theorem df_sep {a b z : T} {la lb : List T} (haA : AR a = true) (hbA : AR b = true) (hka : 18 ≤ kind a) (hkb : 18 ≤ kind b) (hk : kind a ≠ kind b) (ha : kids a = z :: la) (hb : kids b = z :: lb) : Df (txt a) (txt b) (sepc (kind a)) (sepc (kind b)) := by
  have two : ∀ {t : T} {l : List T}, AR t = true → 18 ≤ kind t → kids t = z :: l → ∃ y l', l = y :: l' := by
    intro t l ht hkt hl
    rcases AR_kind ht with h | h | h | h
    · omega
    · omega
    · obtain ⟨-, x, y, e⟩ := h
      rw [hl] at e
      cases e
      exact ⟨y, [], rfl⟩
    · obtain ⟨-, x, y, l', e⟩ := h
      rw [hl] at e
      cases e
      exact ⟨y, l', rfl⟩
  obtain ⟨x1, l1, rfl⟩ := two haA hka ha
  obtain ⟨x2, l2, rfl⟩ := two hbA hkb hb
  rw [txt_br hka ha, txt_br hkb hb]
  refine (Df.pre _ ?_).cons 40
  exact Df.head (fun e => hk (sepc_inj hka (AR_le haA) hkb (AR_le hbA) e))
/-- of the same kind; one has more forms -/
theorem df_more {a b x z : T} {p l : List T} (hka : 18 ≤ kind a) (hkb : kind b = kind a) (ha : kids a = z :: p) (hb : kids b = z :: (p ++ x :: l)) : Df (txt a) (txt b) 41 (sepc (kind a)) := by
  rw [txt_br hka ha, txt_br (by omega) hb, hkb, List.map_append, rest_app]
  have e : rest (sepc (kind a)) (p.map txt) = (p.map txt).flatMap (fun x => sepc (kind a) :: x) ++ [41] := by
    have := rest_app (sepc (kind a)) (p.map txt) []
    rw [List.append_nil] at this
    exact this
  rw [e]
  refine ((Df.pre _ (Df.pre _ ?_))).cons 40
  exact Df.head (fun q => sepc_41 (kind a) q.symm)
/-- two lists part somewhere -/
theorem parts_at {α : Type} : ∀ (l m : List α), l ≠ m → (∃ p x y l' m', l = p ++ x :: l' ∧ m = p ++ y :: m' ∧ x ≠ y) ∨ (∃ x r, m = l ++ x :: r) ∨ ∃ x r, l = m ++ x :: r
  | [], [], h => absurd rfl h
  | [], x :: r, _ => Or.inr (Or.inl ⟨x, r, rfl⟩)
  | x :: r, [], _ => Or.inr (Or.inr ⟨x, r, rfl⟩)
  | a :: l, b :: m, h => by
    by_cases hab : a = b
    · subst hab
      rcases parts_at l m (fun e => h (by rw [e])) with ⟨p, x, y, l', m', e1, e2, e3⟩ | ⟨x, r, e⟩ | ⟨x, r, e⟩
      · exact Or.inl ⟨a :: p, x, y, l', m', by rw [e1]; rfl, by rw [e2]; rfl, e3⟩
      · exact Or.inr (Or.inl ⟨x, r, by rw [e]; rfl⟩)
      · exact Or.inr (Or.inr ⟨x, r, by rw [e]; rfl⟩)
    · exact Or.inl ⟨[], a, b, l, m, rfl, rfl, hab⟩
/-- two forms have texts that differ at a place -/
theorem df_ex : ∀ (a b : T), AR a = true → AR b = true → a ≠ b → ∃ c d, Df (txt a) (txt b) c d := by
  intro a
  induction a using T_ind with
  | h k ts ih =>
    intro b ha hb hne
    have ih' : ∀ t ∈ kids (nd k ts), ∀ b, AR t = true → AR b = true → t ≠ b → ∃ c d, Df (txt t) (txt b) c d := by rw [kids_nd]; exact ih
    generalize nd k ts = a at *
    by_cases h : fl a = fl b
    · rcases fl_eq ha hb h hne with ⟨h1, h2, h3, h4⟩ | ⟨h1, h2⟩ | ⟨h1, h2⟩ | ⟨h1, h2⟩
      · exact ⟨_, _, df_leaf ha hb hne h1 h2 h3 h4⟩
      · rcases AR_kind ha with q | ⟨-, x, ex⟩ | q | q
        · omega
        · rcases AR_kind hb with q | ⟨-, y, ey⟩ | q | q
          · omega
          · have hxy : x ≠ y := fun e => hne (T_ext (by omega) (by rw [ex, ey, e]))
            obtain ⟨c, d, hd⟩ := ih' x (by rw [ex]; exact List.mem_singleton_self x) y (AR_kid ha (by rw [ex]; exact List.mem_singleton_self x)) (AR_kid hb (by rw [ey]; exact List.mem_singleton_self y)) hxy
            refine ⟨c, d, ?_⟩
            rw [txt_un (by omega) ex, txt_un (by omega) ey, if_pos h1, if_pos h2]
            exact hd.cons _
          · omega
          · omega
        · omega
        · omega
      · rcases AR_kind ha with q | ⟨-, x, ex⟩ | q | q
        · omega
        · rcases AR_kind hb with q | ⟨-, y, ey⟩ | q | q
          · omega
          · have hxy : x ≠ y := fun e => hne (T_ext (by omega) (by rw [ex, ey, e]))
            obtain ⟨c, d, hd⟩ := ih' x (by rw [ex]; exact List.mem_singleton_self x) y (AR_kid ha (by rw [ex]; exact List.mem_singleton_self x)) (AR_kid hb (by rw [ey]; exact List.mem_singleton_self y)) hxy
            refine ⟨c, d, ?_⟩
            rw [txt_un (by omega) ex, txt_un (by omega) ey, if_neg (by omega), if_neg (by omega)]
            exact hd.cons _
          · omega
          · omega
        · omega
        · omega
      · have he : ∀ {t : T}, AR t = true → 18 ≤ kind t → ∃ x l, kids t = x :: l := by
          intro t ht hk
          rcases AR_kind ht with q | q | ⟨-, x, y, e⟩ | ⟨-, x, y, l, e⟩
          · omega
          · omega
          · exact ⟨_, _, e⟩
          · exact ⟨_, _, e⟩
        obtain ⟨x, la, ex⟩ := he ha h1
        obtain ⟨y, lb, ey⟩ := he hb h2
        by_cases hxy : x = y
        · subst hxy
          by_cases hk : kind a = kind b
          · have hl : la ≠ lb := fun e => hne (T_ext hk (by rw [ex, ey, e]))
            rcases parts_at la lb hl with ⟨p, u, v, l', m', e1, e2, e3⟩ | ⟨u, r, e⟩ | ⟨u, r, e⟩
            · have hu : u ∈ kids a := by rw [ex, e1]; simp
              have hv : v ∈ kids b := by rw [ey, e2]; simp
              obtain ⟨c, d, hd⟩ := ih' u hu v (AR_kid ha hu) (AR_kid hb hv) e3
              exact ⟨c, d, df_desc h1 hk.symm (by rw [ex, e1]) (by rw [ey, e2]) hd⟩
            · exact ⟨_, _, df_more h1 hk.symm ex (by rw [ey, e])⟩
            · exact ⟨_, _, (df_more h2 hk ey (by rw [ex, e])).sym⟩
          · exact ⟨_, _, df_sep ha hb h1 h2 hk ex ey⟩
        · have hx : x ∈ kids a := by rw [ex]; simp
          have hy : y ∈ kids b := by rw [ey]; simp
          obtain ⟨c, d, hd⟩ := ih' x hx y (AR_kid ha hx) (AR_kid hb hy) hxy
          exact ⟨c, d, df_desc0 h1 h2 ex ey hd⟩
    · exact ⟨_, _, df_fl h⟩
theorem txt_inj {a b : T} (ha : AR a = true) (hb : AR b = true) (h : txt a = txt b) : a = b := by
  by_cases hab : a = b
  · exact hab
  · obtain ⟨c, d, hd⟩ := df_ex a b ha hb hab
    exact absurd h hd.ne
/-- ahead, by the texts -/
def ah (a b : T) : Bool := lxl (txt a) (txt b)
theorem ah_tri {a b : T} (ha : AR a = true) (hb : AR b = true) (h1 : ah a b = false) (h2 : ah b a = false) : a = b := txt_inj ha hb (lxl_tri _ _ h1 h2)
theorem ah_irr (a : T) : ah a a = false := lxl_irr _
theorem ah_asym {a b : T} (h : ah a b = true) : ah b a = false := lxl_asym _ _ h
theorem ah_trans {a b c : T} (h1 : ah a b = true) (h2 : ah b c = true) : ah a c = true := lxl_trans _ _ _ h1 h2
