/-! forms that a form is made of -/
def subl : T → List T := tfold fun k ts l => nd k ts :: l.flatten
theorem subl_nd (k : Nat) (ts : List T) : subl (nd k ts) = nd k ts :: (ts.map subl).flatten := tfold_nd _ _ _
theorem subl_eq (t : T) : subl t = t :: ((kids t).map subl).flatten := by
  have := subl_nd (kind t) (kids t)
  rwa [nd_eta] at this
theorem subl_self (t : T) : t ∈ subl t := by rw [subl_eq]; exact List.mem_cons_self
theorem subl_of_kid {t x y : T} (hx : x ∈ kids t) (hy : y ∈ subl x) : y ∈ subl t := by
  rw [subl_eq t]
  exact List.mem_cons_of_mem _ (List.mem_flatten.mpr ⟨subl x, List.mem_map_of_mem hx, hy⟩)
theorem subl_inv {t y : T} (h : y ∈ subl t) : y = t ∨ ∃ x ∈ kids t, y ∈ subl x := by
  rw [subl_eq] at h
  rcases List.mem_cons.mp h with h | h
  · exact Or.inl h
  · obtain ⟨l, hl, hy⟩ := List.mem_flatten.mp h
    obtain ⟨x, hx, rfl⟩ := List.mem_map.mp hl
    exact Or.inr ⟨x, hx, hy⟩
theorem subl_size : ∀ {t x : T}, x ∈ subl t → size x ≤ size t := by
  intro t
  induction t using T_ind with
  | h k ts ih =>
    intro x hx
    rcases subl_inv hx with rfl | ⟨z, hz, hx⟩
    · exact Nat.le_refl _
    · have h1 := ih z (by rw [kids_nd] at hz; exact hz) hx
      have h2 := size_kid hz
      omega
theorem sum_flatten (g : T → Nat) (f : T → List T) (ts : List T) : (((ts.map f).flatten).map g).sum = (ts.map fun t => ((f t).map g).sum).sum := by
  induction ts with
  | nil => rfl
  | cons t ts ih => simp only [List.map_cons, List.flatten_cons, List.map_append, List.sum_append, List.sum_cons, ih]
theorem sum_le_map (f g : T → Nat) (ts : List T) (h : ∀ t ∈ ts, f t ≤ g t) : (ts.map f).sum ≤ (ts.map g).sum := by
  induction ts with
  | nil => exact Nat.le_refl _
  | cons t ts ih =>
    have h1 := ih (fun t ht => h t (List.mem_cons_of_mem _ ht))
    have h2 := h t List.mem_cons_self
    simp only [List.map_cons, List.sum_cons]
    omega
theorem sum_eq_map (f g : T → Nat) (ts : List T) (h : ∀ t ∈ ts, f t = g t) : (ts.map f).sum = (ts.map g).sum := by
  induction ts with
  | nil => rfl
  | cons t ts ih =>
    have h1 := ih (fun t ht => h t (List.mem_cons_of_mem _ ht))
    have h2 := h t List.mem_cons_self
    simp only [List.map_cons, List.sum_cons]
    omega
theorem sum_add_map (f g : T → Nat) (ts : List T) : (ts.map fun t => f t + g t).sum = (ts.map f).sum + (ts.map g).sum := by
  induction ts with
  | nil => rfl
  | cons t ts ih =>
    simp only [List.map_cons, List.sum_cons, ih]
    omega
theorem sum_const (ts : List T) : (ts.map fun _ => 1).sum = ts.length := by
  induction ts with
  | nil => rfl
  | cons t ts ih =>
    simp only [List.map_cons, List.sum_cons, ih, List.length_cons]
    omega
theorem subl_one : ∀ t : T, ((subl t).map fun _ => 1).sum = size t := by
  intro t
  induction t using T_ind with
  | h k ts ih =>
    rw [subl_nd, List.map_cons, List.sum_cons, sum_flatten, size_nd, sum_eq_map _ size ts ih]
theorem subl_len (t : T) : (subl t).length = size t := by rw [← sum_const, subl_one]
theorem subl_nkid : ∀ t : T, ((subl t).map nkid).sum + 1 = size t := by
  intro t
  induction t using T_ind with
  | h k ts ih =>
    rw [subl_nd, List.map_cons, List.sum_cons, sum_flatten, size_nd, nkid_nd]
    have : (ts.map fun t => ((subl t).map nkid).sum + 1).sum = (ts.map size).sum := sum_eq_map _ size ts ih
    rw [sum_add_map, sum_const] at this
    omega
theorem sq_sum (f : T → Nat) (ts : List T) : (ts.map fun t => f t * (f t + 1)).sum ≤ (ts.map f).sum * ((ts.map f).sum + 1) := by
  induction ts with
  | nil => exact Nat.le_refl _
  | cons t ts ih =>
    simp only [List.map_cons, List.sum_cons]
    generalize (ts.map f).sum = m at *
    generalize f t = a at *
    have : (a + m) * (a + m + 1) = a * (a + 1) + m * (m + 1) + 2 * (a * m) := by
      simp only [Nat.mul_add, Nat.add_mul, Nat.mul_one]
      have : m * a = a * m := Nat.mul_comm _ _
      omega
    omega
theorem subl_sq : ∀ t : T, 2 * ((subl t).map size).sum ≤ size t * (size t + 1) := by
  intro t
  induction t using T_ind with
  | h k ts ih =>
    rw [subl_nd, List.map_cons, List.sum_cons, sum_flatten, size_nd]
    have h1 : (ts.map fun t => 2 * ((subl t).map size).sum).sum ≤ (ts.map fun t => size t * (size t + 1)).sum := sum_le_map _ _ ts ih
    have h2 := sq_sum size ts
    have h3 : (ts.map fun t => 2 * ((subl t).map size).sum).sum = 2 * (ts.map fun t => ((subl t).map size).sum).sum := by
      have : ∀ l : List T, (l.map fun t => 2 * ((subl t).map size).sum).sum = 2 * (l.map fun t => ((subl t).map size).sum).sum := by
        intro l
        induction l with
        | nil => rfl
        | cons a l ih => simp only [List.map_cons, List.sum_cons, ih]; omega
      exact this ts
    generalize (ts.map size).sum = m at *
    have : (1 + m) * (1 + m + 1) = m * (m + 1) + 2 * m + 2 := by
      simp only [Nat.mul_add, Nat.add_mul, Nat.mul_one, Nat.one_mul]
      omega
    omega
theorem subl_sq120 {t : T} (h : size t ≤ 120) : ((subl t).map size).sum ≤ 7260 := by
  have h1 := subl_sq t
  have h2 : size t * (size t + 1) ≤ 120 * 121 := Nat.mul_le_mul h (by omega)
  omega
theorem nodup_sum (g : T → Nat) : ∀ {a b : List T}, a.Nodup → (∀ x ∈ a, x ∈ b) → (a.map g).sum ≤ (b.map g).sum := by
  intro a
  induction a with
  | nil => intro b _ _; exact Nat.zero_le _
  | cons x a ih =>
    intro b hn hs
    obtain ⟨p, q, rfl⟩ := List.append_of_mem (hs x List.mem_cons_self)
    have hn' := List.nodup_cons.mp hn
    have h := ih (b := p ++ q) hn'.2 (fun y hy => by
      have h1 := hs y (List.mem_cons_of_mem _ hy)
      rcases List.mem_append.mp h1 with h1 | h1
      · exact List.mem_append_left _ h1
      · rcases List.mem_cons.mp h1 with rfl | h1
        · exact absurd hy hn'.1
        · exact List.mem_append_right _ h1)
    simp only [List.map_append, List.map_cons, List.sum_append, List.sum_cons] at h ⊢
    omega
/-- a table of forms out of U -/
def UB (U : List T) : Prop := U.length ≤ 2032 ∧ (U.map nkid).sum ≤ 8192
theorem stof_all (tb : List T) : stof tb tb.length = (tb.map nkid).sum := by unfold stof; rw [List.take_length]
theorem UB_cap {U tb : List T} {t : T} (hU : UB U) (hn : tb.Nodup) (hs : ∀ x ∈ tb, x ∈ U) (ht : t ∈ U) (hnew : t ∉ tb) : tb.length < 2032 ∧ stof tb tb.length + nkid t ≤ 8192 := by
  have hn2 : (t :: tb).Nodup := List.nodup_cons.mpr ⟨hnew, hn⟩
  have hs2 : ∀ x ∈ t :: tb, x ∈ U := fun x hx => by
    rcases List.mem_cons.mp hx with rfl | hx
    · exact ht
    · exact hs x hx
  have h1 := nodup_len hn2 hs2
  have h2 := nodup_sum nkid hn2 hs2
  rw [stof_all]
  simp only [List.length_cons, List.map_cons, List.sum_cons] at h1 h2
  have := hU.1
  have := hU.2
  omega
theorem subl_UB {t : T} (h : size t ≤ 120) : UB (subl t) := ⟨by rw [subl_len]; omega, by have := subl_nkid t; omega⟩
/-- the room for an event, over a table of what a form is made of -/
theorem sub_room {t : T} {tb : List T} (h : size t ≤ 120) (hok : okT tb) (hs : ∀ x ∈ tb, x ∈ subl t) (i : Nat) (hi : i ≤ tb.length) : tb.length ≤ 120 ∧ stof tb tb.length ≤ 119 ∧ wsum tb i ≤ 7380 ∧ ∀ x ∈ tb, size x ≤ 120 := by
  have h1 := nodup_len hok.1 hs
  have h2 := nodup_sum nkid hok.1 hs
  have h3 := nodup_sum size hok.1 hs
  have h4 := subl_nkid t
  have h5 := subl_sq120 h
  rw [subl_len] at h1
  rw [stof_all]
  refine ⟨by omega, by omega, ?_, fun x hx => by have := subl_size (hs x hx); omega⟩
  have h6 := wsum_mono (tb := tb) hi (Nat.le_refl _)
  have h7 : wsum tb tb.length = (tb.map size).sum + tb.length := by
    unfold wsum
    rw [List.take_length, sum_add_map, sum_const]
  omega
