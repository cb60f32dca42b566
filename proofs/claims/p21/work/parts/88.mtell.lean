/-! the model: true at the end, signs, letters -/
def one (b : Bool) : Nat := if b = true then 1 else 0
theorem tae_leaf : ∀ k, k < 16 → tae (lf k) = (k == 1 || k == 3 || Nat.ble 10 k) := by
  intro k hk
  unfold lf
  rw [tae_nd, if_pos hk]
def TB (M : Mem) (tb : List T) (k : Nat) : Prop := ∀ i, i < k → M 227 i = bI (tae (dn tb i))
theorem TB.set {M : Mem} {tb : List T} {k : Nat} (h : TB M tb k) {b : Bool} (hb : b = tae (dn tb k)) : TB (mwr M 227 k (bI b)) tb (k + 1) := fun i hi => by
  by_cases q : i = k
  · subst q
    rw [mwr_at, hb]
  · rw [mwr_in _ q]
    exact h i (by omega)
/-! signs -/
theorem fold_bit (s : Nat) : ∀ (l : List Nat) (a : Nat), (l.foldl (· ||| ·) a).testBit s = (a.testBit s || l.any fun x => x.testBit s) := by
  intro l
  induction l with
  | nil => intro a; simp
  | cons x l ih =>
    intro a
    rw [List.foldl_cons, ih, Nat.testBit_or, List.any_cons, Bool.or_assoc]
theorem fold_lt : ∀ (l : List Nat) (a : Nat), a < 64 → (∀ x ∈ l, x < 64) → l.foldl (· ||| ·) a < 64 := by
  intro l
  induction l with
  | nil => intro a h _; exact h
  | cons x l ih =>
    intro a h1 h2
    exact ih (a ||| x) (Nat.or_lt_two_pow (n := 6) h1 (h2 x List.mem_cons_self)) (fun y hy => h2 y (List.mem_cons_of_mem _ hy))
theorem sgn_lt : ∀ (t : T), AR t = true → sgn t < 64 := by
  intro t
  induction t using T_ind with
  | h k ts ih =>
    intro hA
    have hAk := ((AR_nd _ _).mp hA).2
    rcases Nat.lt_or_ge k 16 with hk | hk
    · have h1 : sgn (nd k ts) = if k < 4 then 0 else 2 ^ ((k - 4) % 6) := by
        unfold sgn
        rw [tfold_nd]
        split
        · rfl
        · first | rfl | rw [if_pos hk]
      rw [h1]
      have e : ∀ k, k < 16 → (if k < 4 then 0 else 2 ^ ((k - 4) % 6) : Nat) < 64 := by decide +kernel
      exact e k hk
    · rw [sgn_nd hk]
      refine fold_lt _ 0 (by omega) (fun x hx => ?_)
      obtain ⟨u, hu, rfl⟩ := List.mem_map.mp hx
      exact ih u hu (hAk u hu)
