/-! A FORM'S TEXT: brackets, letters, its first character -/
def okL (f : Bool) : Nat → List Nat → Bool
  | _, [] => true
  | d, c :: cs => if c = 40 then okL f (d + 1) cs else if c = 41 then (decide (1 ≤ d) && (decide (2 ≤ d) || (f && cs.isEmpty))) && okL f (d - 1) cs else (decide (1 ≤ d) || (f && cs.isEmpty) || (c == 88 || c == 78 || c == 45)) && okL f d cs
def depL : Nat → List Nat → Nat
  | d, [] => d
  | d, c :: cs => if c = 40 then depL (d + 1) cs else if c = 41 then depL (d - 1) cs else depL d cs
def sgc (c : Nat) : Nat := if 97 ≤ c ∧ c ≤ 102 then 2 ^ (c - 97) else 0
def sgL : List Nat → Nat
  | [] => 0
  | c :: cs => sgc c ||| sgL cs
theorem sgL_app (a b : List Nat) : sgL (a ++ b) = sgL a ||| sgL b := by
  induction a with
  | nil => show _ = 0 ||| sgL b; rw [Nat.zero_or]; rfl
  | cons c a ih => show sgc c ||| sgL (a ++ b) = (sgc c ||| sgL a) ||| sgL b; rw [ih, Nat.or_assoc]
theorem okL_plain {f : Bool} {d c : Nat} {cs : List Nat} (h1 : c ≠ 40) (h2 : c ≠ 41) (hd : 1 ≤ d) : okL f d (c :: cs) = okL f d cs := by
  rw [okL, if_neg h1, if_neg h2, decide_eq_true hd]
  simp
theorem okL_close {f : Bool} {d : Nat} {cs : List Nat} (hd : 2 ≤ d) : okL f d (41 :: cs) = okL f (d - 1) cs := by
  rw [okL, if_neg (by decide), if_pos rfl, decide_eq_true hd, decide_eq_true (show 1 ≤ d by omega)]
  simp
theorem depL_plain {d c : Nat} {cs : List Nat} (h1 : c ≠ 40) (h2 : c ≠ 41) : depL d (c :: cs) = depL d cs := by
  rw [depL, if_neg h1, if_neg h2]
theorem lfc_rng : ∀ k, k < 16 → 46 ≤ lfc k ∧ lfc k ≤ 102 ∧ lfc k ≠ 88 ∧ lfc k ≠ 78 := by decide +kernel
theorem sepc_rng (k : Nat) : sepc k ≠ 40 ∧ sepc k ≠ 41 ∧ 38 ≤ sepc k ∧ sepc k ≤ 124 ∧ sgc (sepc k) = 0 := by
  unfold sepc
  repeat' split
  all_goals decide
theorem lfc_ne {k : Nat} (h : k < 16) : lfc k ≠ 40 ∧ lfc k ≠ 41 := by have := lfc_rng k h; omega
/-- the form of a text, by its kind -/
theorem txt_cases {t : T} (h : AR t = true) : (kind t < 10 ∧ txt t = [lfc (kind t)]) ∨ (10 ≤ kind t ∧ kind t < 16 ∧ txt t = [45, lfc (kind t)]) ∨ ((kind t = 16 ∨ kind t = 17) ∧ ∃ x, kids t = [x] ∧ AR x = true ∧ txt t = (if kind t = 16 then 88 else 78) :: txt x) ∨ (18 ≤ kind t ∧ ∃ x l, kids t = x :: l ∧ l ≠ [] ∧ AR x = true ∧ (∀ y ∈ l, AR y = true) ∧ txt t = 40 :: (txt x ++ rest (sepc (kind t)) (l.map txt))) := by
  rcases AR_kind h with ⟨h1, h2⟩ | ⟨h1, x, h2⟩ | ⟨h1, x, y, h2⟩ | ⟨h1, x, y, l, h2⟩
  · by_cases q : kind t < 10
    · left
      exact ⟨q, by rw [txt_eq, if_pos q]⟩
    · right; left
      exact ⟨by omega, h1, by rw [txt_eq, if_neg q, if_pos h1]⟩
  · right; right; left
    exact ⟨h1, x, h2, AR_kid h (by rw [h2]; exact List.mem_cons_self), txt_un h1 h2⟩
  · right; right; right
    exact ⟨by omega, x, [y], h2, by simp, AR_kid h (by rw [h2]; exact List.mem_cons_self), fun z hz => AR_kid h (by rw [h2]; exact List.mem_cons_of_mem _ hz), txt_br (by omega) h2⟩
  · right; right; right
    exact ⟨by omega, x, y :: l, h2, by simp, AR_kid h (by rw [h2]; exact List.mem_cons_self), fun z hz => AR_kid h (by rw [h2]; exact List.mem_cons_of_mem _ hz), txt_br (by omega) h2⟩
/-- well nested: inside brackets nothing is left over -/
def Nst1 (cs : List Nat) : Prop := ∀ (f : Bool) (d : Nat) (r : List Nat), 1 ≤ d → okL f d (cs ++ r) = okL f d r ∧ depL d (cs ++ r) = depL d r
theorem nst_one {c : Nat} (h1 : c ≠ 40) (h2 : c ≠ 41) : Nst1 [c] := fun f d r hd => ⟨okL_plain h1 h2 hd, depL_plain h1 h2⟩
theorem nst_app {a b : List Nat} (ha : Nst1 a) (hb : Nst1 b) : Nst1 (a ++ b) := fun f d r hd => by
  rw [List.append_assoc]
  exact ⟨(ha f d _ hd).1.trans (hb f d r hd).1, (ha f d _ hd).2.trans (hb f d r hd).2⟩
theorem nst_cons {c : Nat} {a : List Nat} (h1 : c ≠ 40) (h2 : c ≠ 41) (ha : Nst1 a) : Nst1 (c :: a) := nst_app (nst_one h1 h2) ha
/-- behind the first form of some in brackets -/
theorem rest_ok {s : Nat} (hs : s ≠ 40 ∧ s ≠ 41) : ∀ (l : List (List Nat)), (∀ x ∈ l, Nst1 x) → ∀ (f : Bool) (d : Nat) (r : List Nat), 1 ≤ d → okL f (d + 1) (rest s l ++ r) = okL f (d + 1) (41 :: r) ∧ depL (d + 1) (rest s l ++ r) = depL d r
  | [], _, f, d, r, hd => ⟨rfl, by show depL (d + 1) (41 :: r) = _; rw [depL, if_neg (by decide), if_pos rfl]; rfl⟩
  | x :: l, h, f, d, r, hd => by
    obtain ⟨i1, i2⟩ := rest_ok hs l (fun y hy => h y (List.mem_cons_of_mem _ hy)) f d r hd
    have hx := nst_cons hs.1 hs.2 (h x List.mem_cons_self)
    have e : rest s (x :: l) ++ r = (s :: x) ++ (rest s l ++ r) := by
      show s :: (x ++ rest s l) ++ r = _
      simp
    rw [e]
    exact ⟨(hx f (d + 1) _ (by omega)).1.trans i1, (hx f (d + 1) _ (by omega)).2.trans i2⟩
theorem rest_ok0 {s : Nat} (hs : s ≠ 40 ∧ s ≠ 41) : ∀ (l : List (List Nat)), (∀ x ∈ l, Nst1 x) → okL true 1 (rest s l) = true ∧ depL 1 (rest s l) = 0
  | [], _ => ⟨rfl, rfl⟩
  | x :: l, h => by
    obtain ⟨i1, i2⟩ := rest_ok0 hs l (fun y hy => h y (List.mem_cons_of_mem _ hy))
    have hx := nst_cons hs.1 hs.2 (h x List.mem_cons_self)
    have e : rest s (x :: l) = (s :: x) ++ rest s l := rfl
    rw [e]
    exact ⟨(hx true 1 _ (by omega)).1.trans i1, (hx true 1 _ (by omega)).2.trans i2⟩
theorem txt_nst : ∀ t : T, AR t = true → Nst1 (txt t) := by
  intro t
  induction t using T_ind with
  | h k ts ih =>
    intro h
    have hk := kind_nd k ts
    have hts := kids_nd k ts
    rcases txt_cases h with ⟨h1, e⟩ | ⟨h1, h2, e⟩ | ⟨h1, x, h2, h3, e⟩ | ⟨h1, x, l, h2, -, h3, h4, e⟩
    · have := lfc_ne (show kind (nd k ts) < 16 by omega)
      rw [e]; exact nst_one this.1 this.2
    · have := lfc_ne h2
      rw [e]; exact nst_cons (by decide) (by decide) (nst_one this.1 this.2)
    · have hx := ih x (by rw [← hts, h2]; exact List.mem_cons_self) h3
      rw [e]
      exact nst_cons (by split <;> decide) (by split <;> decide) hx
    · have hx := ih x (by rw [← hts, h2]; exact List.mem_cons_self) h3
      have hl : ∀ y ∈ l.map txt, Nst1 y := fun y hy => by
        obtain ⟨z, hz, rfl⟩ := List.mem_map.mp hy
        exact ih z (by rw [← hts, h2]; exact List.mem_cons_of_mem _ hz) (h4 z hz)
      have hs := sepc_rng (kind (nd k ts))
      rw [e]
      intro f d r hd
      obtain ⟨r1, r2⟩ := rest_ok ⟨hs.1, hs.2.1⟩ (l.map txt) hl f d r hd
      have a1 := hx f (d + 1) (rest (sepc (kind (nd k ts))) (l.map txt) ++ r) (by omega)
      have e2 : (40 :: (txt x ++ rest (sepc (kind (nd k ts))) (l.map txt))) ++ r = 40 :: (txt x ++ (rest (sepc (kind (nd k ts))) (l.map txt) ++ r)) := by simp
      rw [e2, okL, if_pos rfl, depL, if_pos rfl, a1.1, a1.2, r1, r2]
      exact ⟨okL_close (by omega), rfl⟩
/-- the whole text -/
theorem txt_top : ∀ t : T, AR t = true → okL true 0 (txt t) = true ∧ depL 0 (txt t) = 0 := by
  intro t
  induction t using T_ind with
  | h k ts ih =>
    intro h
    have hts := kids_nd k ts
    rcases txt_cases h with ⟨h1, e⟩ | ⟨h1, h2, e⟩ | ⟨h1, x, h2, h3, e⟩ | ⟨h1, x, l, h2, -, h3, h4, e⟩
    · have := lfc_ne (show kind (nd k ts) < 16 by omega)
      rw [e, okL, if_neg this.1, if_neg this.2, depL_plain this.1 this.2]
      exact ⟨rfl, rfl⟩
    · have := lfc_ne h2
      rw [e, okL, if_neg (by decide), if_neg (by decide), depL_plain (by decide) (by decide), okL, if_neg this.1, if_neg this.2, depL_plain this.1 this.2]
      exact ⟨rfl, rfl⟩
    · obtain ⟨i1, i2⟩ := ih x (by rw [← hts, h2]; exact List.mem_cons_self) h3
      rw [e]
      rcases h1 with h1 | h1
      · rw [if_pos h1, okL, if_neg (by decide), if_neg (by decide), depL_plain (by decide) (by decide), i1, i2]
        exact ⟨by simp, rfl⟩
      · rw [if_neg (by omega), okL, if_neg (by decide), if_neg (by decide), depL_plain (by decide) (by decide), i1, i2]
        exact ⟨by simp, rfl⟩
    · have hx := txt_nst x h3
      have hl : ∀ y ∈ l.map txt, Nst1 y := fun y hy => by
        obtain ⟨z, hz, rfl⟩ := List.mem_map.mp hy
        exact txt_nst z (h4 z hz)
      have hs := sepc_rng (kind (nd k ts))
      obtain ⟨r1, r2⟩ := rest_ok0 ⟨hs.1, hs.2.1⟩ (l.map txt) hl
      have a1 := hx true 1 (rest (sepc (kind (nd k ts))) (l.map txt)) (by omega)
      rw [e, okL, if_pos rfl, depL, if_pos rfl, Nat.zero_add, a1.1, a1.2, r1, r2]
      exact ⟨rfl, rfl⟩
theorem lfc_sg : ∀ k, k < 16 → sgc (lfc k) = if k < 4 then 0 else 2 ^ ((k - 4) % 6) := by decide +kernel
theorem sgn_leaf {t : T} (h : AR t = true) (hk : kind t < 16) : sgn t = if kind t < 4 then 0 else 2 ^ ((kind t - 4) % 6) := by
  have e := AR_leaf h hk
  unfold sgn
  rw [tfold_eq]
  by_cases q : kind t < 4
  · rw [if_pos q, if_pos q]
  · rw [if_neg q, if_pos hk, if_neg q]
theorem sgn_kids {t : T} (hk : 16 ≤ kind t) : sgn t = ((kids t).map sgn).foldl (· ||| ·) 0 := by
  have := sgn_nd (k := kind t) (ts := kids t) hk
  rw [nd_eta] at this
  exact this
theorem foldl_or (l : List Nat) : ∀ a : Nat, l.foldl (· ||| ·) a = a ||| l.foldl (· ||| ·) 0 := by
  induction l with
  | nil => intro a; show a = a ||| 0; rw [Nat.or_zero]
  | cons x l ih =>
    intro a
    show l.foldl (· ||| ·) (a ||| x) = a ||| l.foldl (· ||| ·) (0 ||| x)
    rw [ih (a ||| x), ih (0 ||| x), Nat.zero_or, Nat.or_assoc]
theorem rest_sg {s : Nat} (hs : sgc s = 0) : ∀ l : List (List Nat), sgL (rest s l) = (l.map sgL).foldl (· ||| ·) 0
  | [] => rfl
  | x :: l => by
    show sgc s ||| sgL (x ++ rest s l) = (l.map sgL).foldl (· ||| ·) (0 ||| sgL x)
    rw [hs, Nat.zero_or, sgL_app, rest_sg hs l, foldl_or _ (0 ||| sgL x), Nat.zero_or]
/-- its letters are its signs -/
theorem txt_sg : ∀ t : T, AR t = true → sgL (txt t) = sgn t := by
  intro t
  induction t using T_ind with
  | h k ts ih =>
    intro h
    have hts := kids_nd k ts
    rcases txt_cases h with ⟨h1, e⟩ | ⟨h1, h2, e⟩ | ⟨h1, x, h2, h3, e⟩ | ⟨h1, x, l, h2, -, h3, h4, e⟩
    · rw [e, sgn_leaf h (by omega)]
      show sgc _ ||| 0 = _
      rw [Nat.or_zero, lfc_sg _ (by omega)]
    · rw [e, sgn_leaf h h2]
      show sgc 45 ||| (sgc _ ||| 0) = _
      rw [Nat.or_zero, show sgc 45 = 0 from rfl, Nat.zero_or, lfc_sg _ h2]
    · have hx := ih x (by rw [← hts, h2]; exact List.mem_cons_self) h3
      rw [e, sgn_kids (by omega), h2]
      show sgc _ ||| sgL (txt x) = 0 ||| sgn x
      rw [hx]
      congr 1
      split <;> rfl
    · have hx := ih x (by rw [← hts, h2]; exact List.mem_cons_self) h3
      have hs := sepc_rng (kind (nd k ts))
      rw [e, sgn_kids (by omega), h2]
      show sgc 40 ||| sgL (txt x ++ rest _ _) = (l.map sgn).foldl (· ||| ·) (0 ||| sgn x)
      rw [show sgc 40 = 0 from rfl, Nat.zero_or, sgL_app, hx, rest_sg hs.2.2.2.2, foldl_or _ (0 ||| sgn x), Nat.zero_or, List.map_map]
      congr 2
      apply List.map_congr_left
      intro y hy
      exact ih y (by rw [← hts, h2]; exact List.mem_cons_of_mem _ hy) (h4 y hy)
theorem rest_rng {s : Nat} (hs : 38 ≤ s ∧ s ≤ 124) : ∀ l : List (List Nat), (∀ x ∈ l, ∀ c ∈ x, 38 ≤ c ∧ c ≤ 124) → ∀ c ∈ rest s l, 38 ≤ c ∧ c ≤ 124
  | [], _, c, hc => by
    rw [List.mem_singleton.mp hc]; decide
  | x :: l, h, c, hc => by
    rcases List.mem_cons.mp hc with rfl | hc
    · exact hs
    · rcases List.mem_append.mp hc with hc | hc
      · exact h x List.mem_cons_self c hc
      · exact rest_rng hs l (fun y hy => h y (List.mem_cons_of_mem _ hy)) c hc
theorem txt_rng : ∀ t : T, AR t = true → ∀ c ∈ txt t, 38 ≤ c ∧ c ≤ 124 := by
  intro t
  induction t using T_ind with
  | h k ts ih =>
    intro h
    have hts := kids_nd k ts
    rcases txt_cases h with ⟨h1, e⟩ | ⟨h1, h2, e⟩ | ⟨h1, x, h2, h3, e⟩ | ⟨h1, x, l, h2, -, h3, h4, e⟩
    · have := lfc_rng (kind (nd k ts)) (by omega)
      rw [e]
      intro c hc
      rw [List.mem_singleton.mp hc]; omega
    · have := lfc_rng (kind (nd k ts)) h2
      rw [e]
      intro c hc
      rcases List.mem_cons.mp hc with rfl | hc
      · decide
      · rw [List.mem_singleton.mp hc]; omega
    · have hx := ih x (by rw [← hts, h2]; exact List.mem_cons_self) h3
      rw [e]
      intro c hc
      rcases List.mem_cons.mp hc with rfl | hc
      · split <;> decide
      · exact hx c hc
    · have hx := ih x (by rw [← hts, h2]; exact List.mem_cons_self) h3
      have hs := sepc_rng (kind (nd k ts))
      rw [e]
      intro c hc
      rcases List.mem_cons.mp hc with rfl | hc
      · decide
      · rcases List.mem_append.mp hc with hc | hc
        · exact hx c hc
        · refine rest_rng ⟨hs.2.2.1, hs.2.2.2.1⟩ (l.map txt) (fun y hy => ?_) c hc
          obtain ⟨z, hz, rfl⟩ := List.mem_map.mp hy
          exact ih z (by rw [← hts, h2]; exact List.mem_cons_of_mem _ hz) (h4 z hz)
/-- a text is as long as the form is large, or longer -/
theorem wid_size : ∀ t : T, AR t = true → size t ≤ (txt t).length := by
  intro t
  induction t using T_ind with
  | h k ts ih =>
    intro h
    have hts := kids_nd k ts
    have hsz := size_nd k ts
    have hr : ∀ (s : Nat) (l : List T), (∀ y ∈ l, size y ≤ (txt y).length) → (l.map size).sum ≤ (rest s (l.map txt)).length := by
      intro s l
      induction l with
      | nil => intro _; exact Nat.zero_le _
      | cons y l il =>
        intro hy
        have h1 := hy y List.mem_cons_self
        have h2 := il (fun z hz => hy z (List.mem_cons_of_mem _ hz))
        show size y + (l.map size).sum ≤ (s :: (txt y ++ rest s (l.map txt))).length
        rw [List.length_cons, List.length_append]
        omega
    rcases txt_cases h with ⟨h1, e⟩ | ⟨h1, h2, e⟩ | ⟨h1, x, h2, h3, e⟩ | ⟨h1, x, l, h2, -, h3, h4, e⟩
    · rw [AR_leaf h (by omega), size_lf, ← AR_leaf h (by omega), e]; exact Nat.le_refl _
    · rw [AR_leaf h h2, size_lf, ← AR_leaf h h2, e]; exact Nat.le_succ _
    · have hx := ih x (by rw [← hts, h2]; exact List.mem_cons_self) h3
      rw [size_eq, h2, e, List.length_cons]
      simp only [List.map_cons, List.map_nil, List.sum_cons, List.sum_nil]
      omega
    · have hx := ih x (by rw [← hts, h2]; exact List.mem_cons_self) h3
      have hl := hr (sepc (kind (nd k ts))) l (fun y hy => ih y (by rw [← hts, h2]; exact List.mem_cons_of_mem _ hy) (h4 y hy))
      rw [size_eq, h2, e, List.length_cons, List.length_append, List.map_cons, List.sum_cons]
      omega
theorem txt_pos {t : T} : 0 < (txt t).length := by
  obtain ⟨r, h⟩ := txt_fl t
  rw [h]
  exact Nat.succ_pos _
theorem ltr_0 (t : T) : ltr t 0 = nI (fl t) := by
  obtain ⟨r, h⟩ := txt_fl t
  unfold ltr
  rw [dif_pos txt_pos]
  simp only [h, List.getElem_cons_zero]
theorem fl_rng {t : T} (h : AR t = true) : 38 ≤ fl t ∧ fl t ≤ 124 := by
  obtain ⟨r, e⟩ := txt_fl t
  exact txt_rng t h _ (by rw [e]; exact List.mem_cons_self)
/-- what the first character tells -/
theorem lfc_10 : ∀ k, k < 10 → (lfc k = 48 ↔ k = 0) ∧ (lfc k = 49 ↔ k = 1) ∧ (lfc k = 62 ↔ k = 2) ∧ (lfc k = 46 ↔ k = 3) ∧ lfc k ≠ 45 ∧ lfc k ≠ 88 ∧ lfc k ≠ 78 ∧ lfc k ≠ 40 := by decide +kernel
theorem fl_kind {t : T} : (fl t = 48 ↔ kind t = 0) ∧ (fl t = 49 ↔ kind t = 1) ∧ (fl t = 62 ↔ kind t = 2) ∧ (fl t = 46 ↔ kind t = 3) ∧ (fl t = 45 ↔ 10 ≤ kind t ∧ kind t < 16) ∧ (fl t = 88 ↔ kind t = 16) ∧ (fl t = 78 ↔ kind t = 17) := by
  unfold fl
  by_cases h : kind t < 10
  · rw [if_pos h]
    have := lfc_10 _ h
    omega
  · rw [if_neg h]
    by_cases h2 : kind t < 16
    · rw [if_pos h2]; omega
    · rw [if_neg h2]
      by_cases h3 : kind t = 16
      · rw [if_pos h3]; omega
      · rw [if_neg h3]
        by_cases h4 : kind t = 17
        · rw [if_pos h4]; omega
        · rw [if_neg h4]; omega
theorem tae_eq (t : T) : tae t = if kind t < 16 then (kind t == 1 || kind t == 3 || Nat.ble 10 (kind t)) else if kind t = 17 ∨ kind t = 19 then true else if kind t = 20 then ((kids t).map tae).all id else if kind t = 21 then ((kids t).map tae).any id else false := by
  have := tae_nd (kind t) (kids t)
  rw [nd_eta] at this
  exact this
theorem tae_f {t : T} (h : kind t = 16 ∨ kind t = 0 ∨ kind t = 2) : tae t = false := by
  rw [tae_eq]
  rcases h with h | h | h <;> rw [h] <;> rfl
theorem tae_t {t : T} (h : kind t = 17 ∨ kind t = 1 ∨ kind t = 3 ∨ (10 ≤ kind t ∧ kind t < 16)) : tae t = true := by
  rw [tae_eq]
  rcases h with h | h | h | ⟨h1, h2⟩
  · rw [h]; rfl
  · rw [h]; rfl
  · rw [h]; rfl
  · rw [if_pos h2]
    have : Nat.ble 10 (kind t) = true := Nat.ble_eq.mpr h1
    rw [this]; simp
theorem size_1 {t : T} (h : AR t = true) : size t = 1 ↔ ((txt t).length = 1 ∨ fl t = 45) := by
  have hk := (fl_kind (t := t)).2.2.2.2.1
  rcases txt_cases h with ⟨h1, e⟩ | ⟨h1, h2, e⟩ | ⟨h1, x, h2, h3, e⟩ | ⟨h1, x, l, h2, -, h3, h4, e⟩
  · have : size t = 1 := by rw [AR_leaf h (by omega), size_lf]
    rw [e]; exact ⟨fun _ => Or.inl rfl, fun _ => this⟩
  · have : size t = 1 := by rw [AR_leaf h h2, size_lf]
    exact ⟨fun _ => Or.inr (hk.mpr ⟨h1, h2⟩), fun _ => this⟩
  · have h5 := size_eq t
    rw [h2] at h5
    have h6 := size_pos x
    have h7 := txt_pos (t := x)
    simp only [List.map_cons, List.map_nil, List.sum_cons, List.sum_nil] at h5
    rw [e, List.length_cons]
    omega
  · have h5 := size_eq t
    rw [h2] at h5
    have h6 := size_pos x
    have h7 := txt_pos (t := x)
    simp only [List.map_cons, List.sum_cons] at h5
    rw [e, List.length_cons, List.length_append]
    omega
