/-! join() -/
def bgP (x : T) : Bool := decide (120 < size x)
theorem its1_short (t : T) (hsz : size t < 1000000) : (its1 20 t).length < 1000000 := by
  have h1 := wdt_le 20 t
  rw [← its1_len] at h1
  omega
def bdP (t : T) : Bool := decide (8 < (its1 20 t).length) || (its1 20 t).any bgP
theorem bdP_ok (t : T) : bdP t = false ↔ okPt t := by
  unfold bdP okPt
  rw [Bool.or_eq_false_iff, decide_eq_false_iff_not, List.any_eq_false]
  constructor
  · intro ⟨h1, h2⟩
    refine ⟨by omega, fun x hx => ?_⟩
    have := h2 x hx
    have h3 : ¬ 120 < size x := fun q => this (decide_eq_true q)
    omega
  · intro ⟨h1, h2⟩
    refine ⟨by omega, fun x hx => ?_⟩
    have := h2 x hx
    exact fun q => by have := of_decide_eq_true q; omega
theorem unv_l {l1 l2 : List T} : (∀ t ∈ l1, ∀ x ∈ subl t, x ∈ unv l1 l2) ∧ joinT 20 l1 ∈ unv l1 l2 ∧ (∀ t ∈ l2, ∀ x ∈ subl t, x ∈ unv l1 l2) ∧ joinT 20 l2 ∈ unv l1 l2 := by
  unfold unv
  refine ⟨fun t ht x hx => List.mem_append.mpr (Or.inl (subs_mem ht hx)), List.mem_append.mpr (Or.inr List.mem_cons_self), fun t ht x hx => List.mem_append.mpr (Or.inr (List.mem_cons_of_mem _ (List.mem_append.mpr (Or.inl (subs_mem ht hx))))), List.mem_append.mpr (Or.inr (List.mem_cons_of_mem _ (List.mem_append.mpr (Or.inr (List.mem_singleton.mpr rfl)))))⟩
theorem two_size {k : Nat} {l1 l2 : List T} (h1 : okP l1) (h2 : okP l2) : size (joinT k [joinT 20 l1, joinT 20 l2]) < 1000000 := by
  have a := joinT_size k [joinT 20 l1, joinT 20 l2]
  have d1 := jT_size (k := 20) h1
  have d2 := jT_size (k := 20) h2
  simp only [List.map_cons, List.map_nil, List.sum_cons, List.sum_nil] at a
  omega
