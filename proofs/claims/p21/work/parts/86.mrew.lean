/-! the model: what an event makes of a form -/
def BM (M : Mem) (tb : List T) (g : T → T) (t : T) (x : Nat) : Prop := ∀ i, i < x → (i < 16 ∨ dn tb i ∈ subl t) → ∃ y, y < 16 + tb.length ∧ M 227 i = nI y ∧ dn tb y = g (dn tb i)
theorem BM.set {M : Mem} {tb : List T} {g : T → T} {t : T} {x y : Nat} (h : BM M tb g t x) (hy : y < 16 + tb.length) (hd : dn tb y = g (dn tb x)) : BM (mwr M 227 x (nI y)) tb g t (x + 1) := fun i hi hs => by
  by_cases q : i = x
  · subst q
    exact ⟨y, hy, mwr_at _ _ _ _, hd⟩
  · obtain ⟨z, a, b, c⟩ := h i (by omega) hs
    exact ⟨z, a, by rw [mwr_in _ q]; exact b, c⟩
