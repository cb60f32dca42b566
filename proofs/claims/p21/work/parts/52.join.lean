/-! JOINS AND REWRITING OF TREES -/
/-- putting a form into a row that stands in order -/
def ins : List T → T → List T
  | [], t => [t]
  | r :: rs, t => if ah r t = true then r :: ins rs t else if ah t r = true then t :: r :: rs else r :: rs
def Srt (l : List T) : Prop := l.Pairwise (fun a b => ah a b = true)
def allAR (l : List T) : Prop := ∀ t ∈ l, AR t = true
theorem ins_mem {l : List T} {t x : T} (h : x ∈ ins l t) : x ∈ l ∨ x = t := by
  induction l with
  | nil => exact Or.inr (List.mem_singleton.mp h)
  | cons r rs ih =>
    unfold ins at h
    split at h
    · rcases List.mem_cons.mp h with rfl | h
      · exact Or.inl List.mem_cons_self
      · rcases ih h with h | h
        · exact Or.inl (List.mem_cons_of_mem _ h)
        · exact Or.inr h
    · split at h
      · rcases List.mem_cons.mp h with rfl | h
        · exact Or.inr rfl
        · exact Or.inl h
      · exact Or.inl h
theorem ins_old {l : List T} {t x : T} (h : x ∈ l) : x ∈ ins l t := by
  induction l with
  | nil => cases h
  | cons r rs ih =>
    unfold ins
    split
    · rcases List.mem_cons.mp h with rfl | h
      · exact List.mem_cons_self
      · exact List.mem_cons_of_mem _ (ih h)
    · split
      · exact List.mem_cons_of_mem _ h
      · exact h
theorem ins_new {l : List T} {t : T} (hl : allAR l) (ht : AR t = true) : t ∈ ins l t := by
  induction l with
  | nil => exact List.mem_singleton_self t
  | cons r rs ih =>
    unfold ins
    split
    · exact List.mem_cons_of_mem _ (ih (fun x hx => hl x (List.mem_cons_of_mem _ hx)))
    · split
      · exact List.mem_cons_self
      next h1 h2 =>
        have : r = t := ah_tri (hl r List.mem_cons_self) ht (by simpa using h1) (by simpa using h2)
        rw [this]
        exact List.mem_cons_self
theorem ins_AR {l : List T} {t : T} (hl : allAR l) (ht : AR t = true) : allAR (ins l t) := fun x hx => by
  rcases ins_mem hx with h | h
  · exact hl x h
  · rw [h]; exact ht
theorem ins_srt {l : List T} {t : T} (hs : Srt l) : Srt (ins l t) := by
  induction l with
  | nil => exact List.pairwise_singleton _ _
  | cons r rs ih =>
    have hs' := List.pairwise_cons.mp hs
    unfold ins
    split
    next h1 =>
      refine List.pairwise_cons.mpr ⟨fun x hx => ?_, ih hs'.2⟩
      rcases ins_mem hx with h | h
      · exact hs'.1 x h
      · rw [h]; exact h1
    · split
      next h1 h2 =>
        refine List.pairwise_cons.mpr ⟨fun x hx => ?_, hs⟩
        rcases List.mem_cons.mp hx with rfl | hx
        · exact h2
        · exact ah_trans h2 (hs'.1 x hx)
      · exact hs
/-- where it goes: behind all that are ahead of it -/
theorem ins_at {p q : List T} {t : T} (hp : ∀ x ∈ p, ah x t = true) (hq : ∀ x ∈ q, ah t x = true) : ins (p ++ q) t = p ++ t :: q := by
  induction p with
  | nil =>
    cases q with
    | nil => rfl
    | cons r rs =>
      have h := hq r List.mem_cons_self
      show (if ah r t = true then _ else if ah t r = true then _ else _) = _
      rw [if_neg (by rw [ah_asym h]; decide), if_pos h]
      rfl
  | cons r p ih =>
    show (if ah r t = true then r :: ins (p ++ q) t else _) = _
    rw [if_pos (hp r List.mem_cons_self), ih (fun x hx => hp x (List.mem_cons_of_mem _ hx))]
    rfl
theorem ins_had {l : List T} {t : T} (hs : Srt l) (ht : t ∈ l) : ins l t = l := by
  induction l with
  | nil => cases ht
  | cons r rs ih =>
    have hs' := List.pairwise_cons.mp hs
    unfold ins
    rcases List.mem_cons.mp ht with rfl | ht
    · rw [if_neg (by rw [ah_irr]; decide), if_neg (by rw [ah_irr]; decide)]
    · rw [if_pos (hs'.1 t ht), ih hs'.2 ht]
theorem ins_len (l : List T) (t : T) : (ins l t).length ≤ l.length + 1 := by
  induction l with
  | nil => simp [ins]
  | cons r rs ih =>
    unfold ins
    split
    · simp; omega
    · split <;> simp
theorem ins_size (l : List T) (t : T) : ((ins l t).map size).sum ≤ (l.map size).sum + size t := by
  induction l with
  | nil => simp [ins]
  | cons r rs ih =>
    unfold ins
    split
    · simp; omega
    · split
      · simp; omega
      · simp
def rowT : List T → List T → List T := List.foldl ins
theorem rowT_AR {its : List T} : ∀ {l : List T}, allAR l → allAR its → allAR (rowT l its) := by
  induction its with
  | nil => intro l hl _; exact hl
  | cons t its ih => intro l hl h; exact ih (ins_AR hl (h t List.mem_cons_self)) (fun x hx => h x (List.mem_cons_of_mem _ hx))
theorem rowT_srt {its : List T} : ∀ {l : List T}, Srt l → Srt (rowT l its) := by
  induction its with
  | nil => intro l hl; exact hl
  | cons t its ih => intro l hl; exact ih (ins_srt hl)
theorem rowT_mem {its : List T} {x : T} : ∀ {l : List T}, x ∈ rowT l its → x ∈ l ∨ x ∈ its := by
  induction its with
  | nil => intro l h; exact Or.inl h
  | cons t its ih =>
    intro l h
    rcases ih (l := ins l t) h with h | h
    · rcases ins_mem h with h | h
      · exact Or.inl h
      · exact Or.inr (by rw [h]; exact List.mem_cons_self)
    · exact Or.inr (List.mem_cons_of_mem _ h)
theorem rowT_len {its : List T} : ∀ {l : List T}, (rowT l its).length ≤ l.length + its.length := by
  induction its with
  | nil => intro l; exact Nat.le_refl _
  | cons t its ih =>
    intro l
    have h1 := ih (l := ins l t)
    have h2 := ins_len l t
    have h3 : rowT l (t :: its) = rowT (ins l t) its := rfl
    rw [h3, List.length_cons]
    omega
theorem rowT_size {its : List T} : ∀ {l : List T}, ((rowT l its).map size).sum ≤ (l.map size).sum + (its.map size).sum := by
  induction its with
  | nil => intro l; exact Nat.le_refl _
  | cons t its ih =>
    intro l
    have h1 := ih (l := ins l t)
    have h2 := ins_size l t
    have h3 : rowT l (t :: its) = rowT (ins l t) its := rfl
    rw [h3, List.map_cons, List.sum_cons]
    omega
theorem rowT_snoc (l its : List T) (t : T) : rowT l (its ++ [t]) = ins (rowT l its) t := by
  unfold rowT
  rw [List.foldl_append]
  rfl
def has (its : List T) (k : Nat) : Bool := its.any fun t => kind t == k
def neu (k : Nat) : Nat := if k = 20 then 1 else 0
def opk (k : Nat) : Nat := if k < 2 then 1 - k else if k < 4 then 5 - k else if k < 10 then k + 6 else k - 6
/-- what absorbs all else -/
def absb (k : Nat) (its : List T) : Bool := has its (1 - neu k) || (has its 2 && has its 3) || (List.range 6).any fun s => has its (4 + s) && has its (10 + s)
def items (k : Nat) (ts : List T) : List T := ts.flatMap fun t => if kind t = k then kids t else [t]
def keep (k : Nat) (its : List T) : List T := its.filter fun t => kind t != neu k
def endT (k : Nat) (a : Bool) (row : List T) : T := if a = true then lf (1 - neu k) else match row with
  | [] => lf (neu k)
  | [x] => x
  | l => nd k l
def joinI (k : Nat) (its : List T) : T := endT k (absb k its) (rowT [] (keep k its))
def joinT (k : Nat) (ts : List T) : T := joinI k (items k ts)
theorem items_AR {k : Nat} {ts : List T} (h : allAR ts) : allAR (items k ts) := by
  intro x hx
  obtain ⟨t, ht, hx⟩ := List.mem_flatMap.mp hx
  split at hx
  · exact AR_kid (h t ht) hx
  · rw [List.mem_singleton.mp hx]; exact h t ht
theorem keep_AR {k : Nat} {its : List T} (h : allAR its) : allAR (keep k its) := fun x hx => h x (List.mem_filter.mp hx).1
theorem srt_nil : Srt [] := List.Pairwise.nil
theorem neu_lt (k : Nat) : neu k < 2 := by unfold neu; split <;> omega
theorem endT_AR {k : Nat} {a : Bool} {row : List T} (hk : k = 20 ∨ k = 21) (h : allAR row) : AR (endT k a row) = true := by
  have h1 := neu_lt k
  unfold endT
  split
  · exact AR_lf (by omega)
  · split
    · exact AR_lf (by omega)
    · exact h _ (List.mem_singleton_self _)
    next l h2 h3 =>
      rw [AR_nd]
      refine ⟨?_, h⟩
      unfold arity
      rw [if_neg (by omega), if_neg (by omega), if_neg (by omega)]
      simp only [Bool.and_eq_true, Nat.ble_eq]
      refine ⟨by omega, ?_⟩
      match row, h2, h3 with
      | [], h2, _ => exact absurd rfl h2
      | [x], _, h3 => exact absurd rfl (h3 x)
      | x :: y :: l, _, _ => simp
theorem allAR_nil : allAR [] := fun _ h => by cases h
theorem joinI_AR {k : Nat} {its : List T} (hk : k = 20 ∨ k = 21) (h : allAR its) : AR (joinI k its) = true := endT_AR hk (rowT_AR allAR_nil (keep_AR h))
theorem joinT_AR {k : Nat} {ts : List T} (hk : k = 20 ∨ k = 21) (h : allAR ts) : AR (joinT k ts) = true := joinI_AR hk (items_AR h)
theorem size_lf (k : Nat) : size (lf k) = 1 := by unfold lf; rw [size_nd]; rfl
theorem endT_size (k : Nat) (a : Bool) (row : List T) : size (endT k a row) ≤ 1 + (row.map size).sum := by
  unfold endT
  split
  · rw [size_lf]; omega
  · split
    · rw [size_lf]; omega
    · simp
    · rw [size_nd]; exact Nat.le_refl _
theorem sum_filter_le {l : List T} (p : T → Bool) : ((l.filter p).map size).sum ≤ (l.map size).sum := by
  induction l with
  | nil => exact Nat.le_refl _
  | cons a l ih =>
    rw [List.filter_cons]
    split
    · simp; omega
    · simp; omega
theorem items_size (k : Nat) (ts : List T) : ((items k ts).map size).sum ≤ (ts.map size).sum := by
  induction ts with
  | nil => exact Nat.le_refl _
  | cons t ts ih =>
    have h : items k (t :: ts) = (if kind t = k then kids t else [t]) ++ items k ts := rfl
    rw [h, List.map_append, List.sum_append, List.map_cons, List.sum_cons]
    have h1 : ((if kind t = k then kids t else [t]).map size).sum ≤ size t := by
      split
      · rw [size_eq t]; omega
      · simp
    omega
theorem joinI_size (k : Nat) (its : List T) : size (joinI k its) ≤ 1 + (its.map size).sum := by
  have h1 := endT_size k (absb k its) (rowT [] (keep k its))
  have h2 := rowT_size (its := keep k its) (l := [])
  have h3 : ((keep k its).map size).sum ≤ (its.map size).sum := sum_filter_le _
  simp at h2
  unfold joinI
  omega
theorem joinT_size (k : Nat) (ts : List T) : size (joinT k ts) ≤ 1 + (ts.map size).sum := by
  have h1 := joinI_size k (items k ts)
  have h2 := items_size k ts
  unfold joinT
  omega
/-- how many forms it puts into an all, or an any -/
def wdt (k : Nat) (t : T) : Nat := if kind t = k then (kids t).length else 1
theorem len_le_size (l : List T) : l.length ≤ (l.map size).sum := by
  induction l with
  | nil => exact Nat.le_refl _
  | cons a l ih =>
    have := size_pos a
    simp
    omega
theorem wdt_le (k : Nat) (t : T) : wdt k t ≤ size t := by
  unfold wdt
  have h1 := len_le_size (kids t)
  have h2 := size_eq t
  split <;> omega
theorem items_len (k : Nat) (ts : List T) : (items k ts).length = (ts.map (wdt k)).sum := by
  induction ts with
  | nil => rfl
  | cons t ts ih =>
    have h : items k (t :: ts) = (if kind t = k then kids t else [t]) ++ items k ts := rfl
    rw [h, List.length_append, ih, List.map_cons, List.sum_cons]
    congr 1
    unfold wdt
    split <;> rfl
/-! what an event makes of a form -/
def rewL (set k : Nat) : T := if k < 2 then lf k else if k = 2 then lf 1 else if k = 3 then lf 0 else if k < 10 then (if set.testBit (k - 4) = true then lf 1 else lf 0) else if set.testBit (k - 10) = true then lf 0 else lf 1
def rewN (set : Nat) (k : Nat) (ts l : List T) : T := if k < 16 then rewL set k else if k = 16 then joinT 20 [lf 2, ts.headD (lf 0)] else if k = 17 then joinT 21 [lf 3, ts.headD (lf 0)] else if k = 18 then joinT 21 [l.getD 1 (lf 0), joinT 20 [l.headD (lf 0), nd k ts]] else if k = 19 then joinT 20 [l.getD 1 (lf 0), joinT 21 [l.headD (lf 0), nd k ts]] else joinT k l
def rew (set : Nat) : T → T := tfold (rewN set)
theorem rew_nd (set k : Nat) (ts : List T) : rew set (nd k ts) = rewN set k ts (ts.map (rew set)) := tfold_nd _ _ _
theorem rew_eq (set : Nat) (t : T) : rew set t = rewN set (kind t) (kids t) ((kids t).map (rew set)) := tfold_eq _ _
def oppN (k : Nat) (l : List T) : T := if k < 16 then lf (opk k) else if k = 16 then nd 17 l else if k = 17 then nd 16 l else if k = 18 then nd 19 l else if k = 19 then nd 18 l else joinT (41 - k) l
def opp : T → T := tfold fun k _ l => oppN k l
theorem opp_nd (k : Nat) (ts : List T) : opp (nd k ts) = oppN k (ts.map opp) := tfold_nd _ _ _
theorem opp_eq (t : T) : opp t = oppN (kind t) ((kids t).map opp) := tfold_eq _ _
theorem rewL_lf (set k : Nat) : rewL set k = lf 0 ∨ rewL set k = lf 1 := by
  unfold rewL
  split
  next h =>
    rcases (show k = 0 ∨ k = 1 by omega) with rfl | rfl
    · exact Or.inl rfl
    · exact Or.inr rfl
  · split
    · exact Or.inr rfl
    · split
      · exact Or.inl rfl
      · split
        · split
          · exact Or.inr rfl
          · exact Or.inl rfl
        · split
          · exact Or.inl rfl
          · exact Or.inr rfl
theorem rew_AR (set : Nat) : ∀ t : T, AR t = true → AR (rew set t) = true := by
  intro t
  induction t using T_ind with
  | h k ts ih =>
    intro h
    have hl : allAR (ts.map (rew set)) := fun x hx => by
      obtain ⟨y, hy, rfl⟩ := List.mem_map.mp hx
      exact ih y hy (((AR_nd _ _).mp h).2 y hy)
    have h0 : AR (lf 0) = true := AR_lf (by omega)
    have hd : ∀ l : List T, allAR l → AR (l.headD (lf 0)) = true := fun l hl => by
      cases l with
      | nil => exact h0
      | cons a l => exact hl a List.mem_cons_self
    have hd1 : ∀ l : List T, allAR l → AR (l.getD 1 (lf 0)) = true := fun l hl => by
      match l, hl with
      | [], _ => exact h0
      | [a], _ => exact h0
      | a :: b :: l, hl => exact hl b (List.mem_cons_of_mem _ List.mem_cons_self)
    have two : ∀ {a b : T}, AR a = true → AR b = true → allAR [a, b] := fun ha hb x hx => by
      rcases List.mem_cons.mp hx with rfl | hx
      · exact ha
      · rw [List.mem_singleton.mp hx]; exact hb
    rw [rew_nd]
    unfold rewN
    split
    · rcases rewL_lf set k with e | e <;> rw [e] <;> exact AR_lf (by omega)
    · split
      · exact joinT_AR (Or.inl rfl) (two (AR_lf (by omega)) (hd _ ((AR_nd _ _).mp h).2))
      · split
        · exact joinT_AR (Or.inr rfl) (two (AR_lf (by omega)) (hd _ ((AR_nd _ _).mp h).2))
        · split
          · exact joinT_AR (Or.inr rfl) (two (hd1 _ hl) (joinT_AR (Or.inl rfl) (two (hd _ hl) h)))
          · split
            · exact joinT_AR (Or.inl rfl) (two (hd1 _ hl) (joinT_AR (Or.inr rfl) (two (hd _ hl) h)))
            · have := AR_le h
              rw [kind_nd] at this
              exact joinT_AR (by omega) hl
theorem opp_AR : ∀ t : T, AR t = true → AR (opp t) = true := by
  intro t
  induction t using T_ind with
  | h k ts ih =>
    intro h
    have hl : allAR (ts.map opp) := fun x hx => by
      obtain ⟨y, hy, rfl⟩ := List.mem_map.mp hx
      exact ih y hy (((AR_nd _ _).mp h).2 y hy)
    have ha := ((AR_nd _ _).mp h).1
    rw [opp_nd]
    unfold oppN
    have hlen : (ts.map opp).length = ts.length := List.length_map _
    have ar : ∀ j : Nat, arity j ts.length = true → AR (nd j (ts.map opp)) = true := fun j hj => (AR_nd _ _).mpr ⟨by rw [hlen]; exact hj, hl⟩
    unfold arity at ha
    split
    next hk =>
      refine AR_lf ?_
      unfold opk
      split
      · omega
      · split
        · omega
        · split <;> omega
    next hk =>
      rw [if_neg hk] at ha
      split
      next h1 => exact ar 17 (by unfold arity; rw [if_pos (by omega)] at ha; exact ha)
      · split
        next h1 => exact ar 16 (by unfold arity; rw [if_pos (by omega)] at ha; exact ha)
        · split
          next h1 => exact ar 19 (by unfold arity; rw [if_neg (by omega), if_pos (by omega)] at ha; exact ha)
          · split
            next h1 => exact ar 18 (by unfold arity; rw [if_neg (by omega), if_pos (by omega)] at ha; exact ha)
            · have := AR_le h
              rw [kind_nd] at this
              exact joinT_AR (by omega) hl
