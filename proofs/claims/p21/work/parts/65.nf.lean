/-! plain forms: what joins make -/
def okd (k : Nat) : Nat := if k < 16 then opk k else if k < 18 then 33 - k else if k < 20 then 37 - k else 41 - k
theorem okd_okd : ∀ k, k < 22 → okd (okd k) = k ∧ okd k < 22 := by decide
theorem okd_inj {a b : Nat} (ha : a < 22) (hb : b < 22) (h : okd a = okd b) : a = b := by
  rw [← (okd_okd a ha).1, ← (okd_okd b hb).1, h]
def pln (k : Nat) (ts : List T) : Prop := Srt ts ∧ absb k ts = false ∧ ∀ t ∈ ts, kind t ≠ k ∧ kind t ≠ neu k
def NF : T → Prop := tfold fun k ts l => (∀ p ∈ l, p) ∧ (k = 20 ∨ k = 21 → pln k ts)
theorem NF_nd (k : Nat) (ts : List T) : NF (nd k ts) ↔ (∀ t ∈ ts, NF t) ∧ (k = 20 ∨ k = 21 → pln k ts) := by
  unfold NF
  rw [tfold_nd]
  constructor
  · rintro ⟨a, b⟩
    exact ⟨fun t ht => a _ (List.mem_map_of_mem ht), b⟩
  · rintro ⟨a, b⟩
    refine ⟨fun p hp => ?_, b⟩
    obtain ⟨t, ht, rfl⟩ := List.mem_map.mp hp
    exact a t ht
theorem NF_kid {t x : T} (h : NF t) (hx : x ∈ kids t) : NF x := by
  rw [← nd_eta t] at h
  exact ((NF_nd _ _).mp h).1 x hx
theorem NF_pln {t : T} (h : NF t) (hk : kind t = 20 ∨ kind t = 21) : pln (kind t) (kids t) := by
  rw [← nd_eta t] at h
  exact ((NF_nd _ _).mp h).2 hk
theorem NF_lf (k : Nat) (h : k < 16) : NF (lf k) := (NF_nd _ _).mpr ⟨fun _ h => absurd h (by simp), fun h => by omega⟩
theorem Srt_uniq : ∀ {a b : List T}, Srt a → Srt b → (∀ x, x ∈ a ↔ x ∈ b) → a = b := by
  intro a
  induction a with
  | nil =>
    intro b _ _ h
    cases b with
    | nil => rfl
    | cons y b => exact absurd ((h y).mpr List.mem_cons_self) (by simp)
  | cons x a ih =>
    intro b ha hb h
    cases b with
    | nil => exact absurd ((h x).mp List.mem_cons_self) (by simp)
    | cons y b =>
      have ha' := List.pairwise_cons.mp ha
      have hb' := List.pairwise_cons.mp hb
      have e : x = y := by
        rcases List.mem_cons.mp ((h x).mp List.mem_cons_self) with e | e
        · exact e
        · rcases List.mem_cons.mp ((h y).mpr List.mem_cons_self) with e2 | e2
          · exact e2.symm
          · have := ah_asym (hb'.1 x e)
            rw [ha'.1 y e2] at this
            cases this
      subst e
      have : a = b := ih ha'.2 hb'.2 (fun z => by
        constructor
        · intro hz
          rcases List.mem_cons.mp ((h z).mp (List.mem_cons_of_mem _ hz)) with e | e
          · subst e
            have := ha'.1 z hz
            rw [ah_irr] at this
            cases this
          · exact e
        · intro hz
          rcases List.mem_cons.mp ((h z).mpr (List.mem_cons_of_mem _ hz)) with e | e
          · subst e
            have := hb'.1 z hz
            rw [ah_irr] at this
            cases this
          · exact e)
      rw [this]
theorem rowT_new {its : List T} {x : T} : ∀ {l : List T}, allAR l → allAR its → (x ∈ l ∨ x ∈ its) → x ∈ rowT l its := by
  induction its with
  | nil =>
    intro l _ _ h
    rcases h with h | h
    · exact h
    · cases h
  | cons a its ih =>
    intro l hl hi h
    have hl2 : allAR (ins l a) := ins_AR hl (hi a List.mem_cons_self)
    refine ih (l := ins l a) hl2 (fun t ht => hi t (List.mem_cons_of_mem _ ht)) ?_
    rcases h with h | h
    · exact Or.inl (ins_old h)
    · rcases List.mem_cons.mp h with rfl | h
      · exact Or.inl (ins_new hl (hi x List.mem_cons_self))
      · exact Or.inr h
theorem row_iff {its : List T} (h : allAR its) (x : T) : x ∈ rowT [] its ↔ x ∈ its :=
  ⟨fun hx => (rowT_mem hx).resolve_left (by simp), fun hx => rowT_new allAR_nil h (Or.inr hx)⟩
theorem has_iff (its : List T) (k : Nat) : has its k = true ↔ ∃ t ∈ its, kind t = k := by
  unfold has
  rw [List.any_eq_true]
  constructor
  · rintro ⟨t, a, b⟩
    exact ⟨t, a, by simpa using b⟩
  · rintro ⟨t, a, b⟩
    exact ⟨t, a, by simpa using b⟩
theorem has_le {a b : List T} (h : ∀ x ∈ a, x ∈ b) {k : Nat} (hk : has a k = true) : has b k = true := by
  obtain ⟨t, ht, e2⟩ := (has_iff _ _).mp hk
  exact (has_iff b k).mpr ⟨t, h t ht, e2⟩
theorem absb_mono {k : Nat} {a b : List T} (h : ∀ x ∈ a, x ∈ b) (hb : absb k b = false) : absb k a = false := by
  cases e : absb k a with
  | false => rfl
  | true =>
    have : absb k b = true := by
      unfold absb at e ⊢
      rw [Bool.or_eq_true, Bool.or_eq_true, Bool.and_eq_true, List.any_eq_true] at e ⊢
      rcases e with (e | e) | ⟨s, hs, e⟩
      · exact Or.inl (Or.inl (has_le h e))
      · exact Or.inl (Or.inr ⟨has_le h e.1, has_le h e.2⟩)
      · rw [Bool.and_eq_true] at e
        exact Or.inr ⟨s, hs, by rw [Bool.and_eq_true]; exact ⟨has_le h e.1, has_le h e.2⟩⟩
    rw [this] at hb
    cases hb
theorem items_pln {k : Nat} {ts : List T} (h : ∀ t ∈ ts, kind t ≠ k) : items k ts = ts := by
  induction ts with
  | nil => rfl
  | cons a ts ih =>
    rw [items_cons, ih (fun t ht => h t (List.mem_cons_of_mem _ ht))]
    unfold its1
    rw [if_neg (h a List.mem_cons_self)]
    rfl
theorem keep_pln {k : Nat} {ts : List T} (h : ∀ t ∈ ts, kind t ≠ neu k) : keep k ts = ts := by
  unfold keep
  rw [List.filter_eq_self]
  intro t ht
  have := h t ht
  simpa using this
theorem join_pln {k : Nat} {ts : List T} (h1 : ∀ t ∈ ts, kind t ≠ k ∧ kind t ≠ neu k) (h2 : absb k ts = false) : joinT k ts = endT k false (rowT [] ts) := by
  unfold joinT joinI
  rw [items_pln (fun t ht => (h1 t ht).1), h2, keep_pln (fun t ht => (h1 t ht).2)]
theorem endT_two {k : Nat} {l : List T} {x y : T} (hx : x ∈ l) (hy : y ∈ l) (hne : x ≠ y) : endT k false l = nd k l := by
  unfold endT
  rw [if_neg (by simp)]
  match l, hx, hy with
  | [z], hx, hy =>
    exact absurd ((List.mem_singleton.mp hx).trans (List.mem_singleton.mp hy).symm) hne
  | a :: b :: l, _, _ => rfl
/-- joins of plain forms are plain -/
theorem joinI_NF {k : Nat} (hk : k = 20 ∨ k = 21) {its : List T} (hA : allAR its) (h : ∀ t ∈ its, NF t ∧ kind t ≠ k) : NF (joinI k its) := by
  have hn := neu_lt k
  unfold joinI
  have hm : ∀ x ∈ rowT [] (keep k its), x ∈ its ∧ kind x ≠ neu k := fun x hx => by
    have h1 := List.mem_filter.mp ((rowT_mem hx).resolve_left (by simp))
    exact ⟨h1.1, by simpa using h1.2⟩
  have hs : Srt (rowT [] (keep k its)) := rowT_srt srt_nil
  cases ha : absb k its with
  | true =>
    unfold endT
    rw [if_pos rfl]
    exact NF_lf _ (by omega)
  | false =>
    have ha2 := absb_mono (fun x hx => (hm x hx).1) ha
    generalize rowT [] (keep k its) = row at *
    unfold endT
    rw [if_neg (by simp)]
    split
    · exact NF_lf _ (by omega)
    · exact (h _ (hm _ List.mem_cons_self).1).1
    · exact (NF_nd _ _).mpr ⟨fun t ht => (h t (hm t ht).1).1, fun _ => ⟨hs, ha2, fun t ht => ⟨(h t (hm t ht).1).2, (hm t ht).2⟩⟩⟩
theorem joinT_NF {k : Nat} (hk : k = 20 ∨ k = 21) {ts : List T} (hA : allAR ts) (h : ∀ t ∈ ts, NF t) : NF (joinT k ts) := by
  refine joinI_NF hk (items_AR hA) (fun t ht => ?_)
  obtain ⟨u, hu, ht⟩ := List.mem_flatMap.mp ht
  split at ht
  next e =>
    have := NF_pln (h u hu) (by rw [e]; exact hk)
    rw [e] at this
    exact ⟨NF_kid (h u hu) ht, (this.2.2 t ht).1⟩
  next e =>
    rw [List.mem_singleton.mp ht]
    exact ⟨h u hu, e⟩
