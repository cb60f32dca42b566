/-! how wide a form can become -/
def maxl (l : List Nat) : Nat := l.foldr max 0
theorem maxl_le {l : List Nat} {b : Nat} (h : ∀ x ∈ l, x ≤ b) : maxl l ≤ b := by
  induction l with
  | nil => exact Nat.zero_le _
  | cons a l ih =>
    show max a (maxl l) ≤ b
    exact Nat.max_le.mpr ⟨h a List.mem_cons_self, ih (fun x hx => h x (List.mem_cons_of_mem _ hx))⟩
theorem le_maxl {l : List Nat} {x : Nat} (h : x ∈ l) : x ≤ maxl l := by
  induction l with
  | nil => cases h
  | cons a l ih =>
    show x ≤ max a (maxl l)
    rcases List.mem_cons.mp h with rfl | h
    · exact Nat.le_max_left _ _
    · exact Nat.le_trans (ih h) (Nat.le_max_right _ _)
def MW : T → Nat := tfold fun k ts l => if k = 20 ∨ k = 21 then max 1 (max ts.length (maxl l)) else 1
theorem MW_nd (k : Nat) (ts : List T) : MW (nd k ts) = if k = 20 ∨ k = 21 then max 1 (max ts.length (maxl (ts.map MW))) else 1 := by
  unfold MW
  rw [tfold_nd]
theorem MW_eq (t : T) : MW t = if kind t = 20 ∨ kind t = 21 then max 1 (max (kids t).length (maxl ((kids t).map MW))) else 1 := by
  rw [← MW_nd, nd_eta]
theorem MW_pos (t : T) : 1 ≤ MW t := by
  rw [MW_eq]
  split
  · exact Nat.le_max_left _ _
  · exact Nat.le_refl _
theorem MW_le : ∀ t : T, MW t ≤ size t := by
  intro t
  induction t using T_ind with
  | h k ts ih =>
    have hs := size_pos (nd k ts)
    rw [MW_nd]
    split
    · have h1 : ts.length ≤ size (nd k ts) := by
        have := len_le_size ts
        rw [size_nd]; omega
      have h2 : maxl (ts.map MW) ≤ size (nd k ts) := maxl_le (fun x hx => by
        obtain ⟨y, hy, rfl⟩ := List.mem_map.mp hx
        have a := ih y hy
        have b : size y ≤ (ts.map size).sum := le_sum_of_mem (List.mem_map_of_mem hy)
        rw [size_nd]; omega)
      omega
    · exact hs
theorem wdt_MW {j : Nat} (hj : j = 20 ∨ j = 21) (t : T) : wdt j t ≤ MW t := by
  unfold wdt
  split
  next h =>
    rw [MW_eq, if_pos (by rw [h]; exact hj)]
    omega
  · exact MW_pos t
theorem MW_kid {t x : T} (hk : kind t = 20 ∨ kind t = 21) (hx : x ∈ kids t) : MW x ≤ MW t := by
  rw [MW_eq t, if_pos hk]
  have := le_maxl (List.mem_map_of_mem (f := MW) hx)
  omega
theorem MW_lf (k : Nat) : k < 16 → MW (lf k) = 1 := by
  intro h
  unfold lf
  rw [MW_nd, if_neg (by omega)]
theorem rowK_mem {k : Nat} {its : List T} {x : T} (h : x ∈ rowK k its) : x ∈ its := by
  rcases rowT_mem h with h | h
  · cases h
  · exact (List.mem_filter.mp h).1
theorem MW_joinI {k : Nat} (hk : k = 20 ∨ k = 21) {its : List T} {b : Nat} (h1 : its.length ≤ b) (hb : 1 ≤ b) (h2 : ∀ x ∈ its, MW x ≤ b) : MW (joinI k its) ≤ b := by
  have hr := rowK_len k its
  have hm : ∀ x ∈ rowK k its, MW x ≤ b := fun x hx => h2 x (rowK_mem hx)
  have hn := neu_lt k
  show MW (endT k (absb k its) (rowK k its)) ≤ b
  unfold endT
  split
  · rw [MW_lf _ (by omega)]; exact hb
  · split
    · rw [MW_lf _ (by omega)]; exact hb
    next x e => exact hm x (by rw [e]; exact List.mem_singleton_self x)
    · rw [MW_nd, if_pos hk]
      have : maxl ((rowK k its).map MW) ≤ b := maxl_le (fun y hy => by
        obtain ⟨z, hz, rfl⟩ := List.mem_map.mp hy
        exact hm z hz)
      omega
theorem items_MW {k : Nat} (hk : k = 20 ∨ k = 21) {ts : List T} {x : T} (h : x ∈ items k ts) : ∃ t ∈ ts, MW x ≤ MW t := by
  obtain ⟨t, ht, hx⟩ := List.mem_flatMap.mp h
  split at hx
  next e => exact ⟨t, ht, MW_kid (by rw [e]; exact hk) hx⟩
  · rw [List.mem_singleton.mp hx]; exact ⟨t, ht, Nat.le_refl _⟩
theorem MW_joinT {k : Nat} (hk : k = 20 ∨ k = 21) {ts : List T} {b : Nat} (h1 : (ts.map (wdt k)).sum ≤ b) (hb : 1 ≤ b) (h2 : ∀ x ∈ ts, MW x ≤ b) : MW (joinT k ts) ≤ b := by
  refine MW_joinI hk (by rw [items_len]; exact h1) hb (fun x hx => ?_)
  obtain ⟨t, ht, e⟩ := items_MW hk hx
  exact Nat.le_trans e (h2 t ht)
/-- an all (any) in which an until stands isn't an any (all) -/
theorem kind_join {k : Nat} (hk : k = 20 ∨ k = 21) {a u : T} (ha : AR a = true) (hu : AR u = true) (hku : kind u = 18 ∨ kind u = 19) : wdt (41 - k) (joinT k [a, u]) ≤ 1 := by
  have hitu : its1 k u = [u] := if_neg (by omega)
  have hits : items k [a, u] = its1 k a ++ [u] := by rw [items_cons, items_cons, items_nil, hitu]; rfl
  have hn := neu_lt k
  have hmem : u ∈ rowK k (items k [a, u]) := by
    rw [hits, rowK_snoc, if_neg (by omega)]
    have hia : allAR (its1 k a) := by
      intro x hx
      unfold its1 at hx
      split at hx
      · exact AR_kid ha hx
      · rw [List.mem_singleton.mp hx]; exact ha
    exact ins_new (rowK_AR hia) hu
  have hw : ∀ t : T, kind t ≠ 41 - k → wdt (41 - k) t ≤ 1 := fun t ht => by unfold wdt; rw [if_neg ht]; exact Nat.le_refl _
  apply hw
  show kind (endT k _ (rowK k (items k [a, u]))) ≠ _
  unfold endT
  split
  · rw [kind_lf]; omega
  · split
    next e => rw [e] at hmem; cases hmem
    next x e =>
      rw [e] at hmem
      rw [← List.mem_singleton.mp hmem]
      omega
    · rw [kind_nd]; omega
theorem rew_MW (set : Nat) : ∀ t : T, AR t = true → MW (rew set t) ≤ size t := by
  intro t
  induction t using T_ind with
  | h k ts ih =>
    intro h
    have hA := (AR_nd _ _).mp h
    have hk21 := AR_le h
    rw [kind_nd] at hk21
    have hs := size_nd k ts
    have hsp := size_pos (nd k ts)
    rw [rew_nd]
    unfold rewN
    split
    · rcases rewL_lf set k with e | e <;> rw [e, MW_lf _ (by omega)] <;> exact hsp
    · split
      next h0 h1 =>
        rcases AR_kind h with q | ⟨-, x, q⟩ | q | q
        · rw [kind_nd] at q; omega
        · rw [kids_nd] at q
          subst q
          have hx := MW_le x
          have w1 := wdt_le 20 x
          refine MW_joinT (Or.inl rfl) ?_ hsp (fun y hy => ?_)
          · show (List.map (wdt 20) [lf 2, x]).sum ≤ _
            have : wdt 20 (lf 2) = 1 := rfl
            simp [this]
            rw [hs]; simp; omega
          · rcases List.mem_cons.mp hy with rfl | hy
            · rw [MW_lf _ (by omega)]; exact hsp
            · rw [List.mem_singleton.mp hy, hs]
              show MW x ≤ _
              simp; omega
        · rw [kind_nd] at q; omega
        · rw [kind_nd] at q; omega
      · split
        next h0 h1 h2 =>
          rcases AR_kind h with q | ⟨-, x, q⟩ | q | q
          · rw [kind_nd] at q; omega
          · rw [kids_nd] at q
            subst q
            have hx := MW_le x
            have w1 := wdt_le 21 x
            refine MW_joinT (Or.inr rfl) ?_ hsp (fun y hy => ?_)
            · show (List.map (wdt 21) [lf 3, x]).sum ≤ _
              have : wdt 21 (lf 3) = 1 := rfl
              simp [this]
              rw [hs]; simp; omega
            · rcases List.mem_cons.mp hy with rfl | hy
              · rw [MW_lf _ (by omega)]; exact hsp
              · rw [List.mem_singleton.mp hy, hs]
                show MW x ≤ _
                simp; omega
          · rw [kind_nd] at q; omega
          · rw [kind_nd] at q; omega
        · have core : ∀ {j : Nat}, (j = 20 ∨ j = 21) → (k = 18 ∨ k = 19) → ∀ f g : T, ts = [f, g] → MW (joinT (41 - j) [(ts.map (rew set)).getD 1 (lf 0), joinT j [(ts.map (rew set)).headD (lf 0), nd k ts]]) ≤ size (nd k ts) := by
            intro j hj hk f g e
            have hf : AR f = true := hA.2 f (by rw [e]; simp)
            have hg : AR g = true := hA.2 g (by rw [e]; simp)
            have if_ := ih f (by rw [e]; simp) hf
            have ig := ih g (by rw [e]; simp) hg
            have e1 : (ts.map (rew set)).getD 1 (lf 0) = rew set g := by rw [e]; rfl
            have e2 : (ts.map (rew set)).headD (lf 0) = rew set f := by rw [e]; rfl
            rw [e1, e2]
            have hs2 : size (nd k ts) = 1 + (size f + size g) := by rw [hs, e]; simp
            have sf := size_pos f
            have sg := size_pos g
            have hin : wdt (41 - j) (joinT j [rew set f, nd k ts]) ≤ 1 := kind_join hj (rew_AR set f hf) h (by rw [kind_nd]; exact hk)
            have mu : MW (nd k ts) = 1 := by rw [MW_nd, if_neg (by omega)]
            have wu : wdt j (nd k ts) ≤ 1 := by unfold wdt; rw [kind_nd, if_neg (by omega)]; exact Nat.le_refl _
            have wf := wdt_MW hj (rew set f)
            have wg := wdt_MW (j := 41 - j) (by omega) (rew set g)
            have min : MW (joinT j [rew set f, nd k ts]) ≤ size f + 1 := MW_joinT hj (by simp; omega) (by omega) (fun y hy => by
              rcases List.mem_cons.mp hy with rfl | hy
              · omega
              · rw [List.mem_singleton.mp hy, mu]; omega)
            refine MW_joinT (by omega) (by simp; omega) hsp (fun y hy => ?_)
            rcases List.mem_cons.mp hy with rfl | hy
            · omega
            · rw [List.mem_singleton.mp hy]; omega
          have fg : k = 18 ∨ k = 19 → ∃ f g, ts = [f, g] := fun hk => by
            rcases AR_kind h with q | q | ⟨-, x, y, q⟩ | q
            · rw [kind_nd] at q; omega
            · rw [kind_nd] at q; omega
            · rw [kids_nd] at q; exact ⟨x, y, q⟩
            · rw [kind_nd] at q; omega
          split
          next h3 =>
            obtain ⟨f, g, e⟩ := fg (Or.inl h3)
            exact core (j := 20) (Or.inl rfl) (Or.inl h3) f g e
          · split
            next h4 =>
              obtain ⟨f, g, e⟩ := fg (Or.inr h4)
              exact core (j := 21) (Or.inr rfl) (Or.inr h4) f g e
            · have hk : k = 20 ∨ k = 21 := by omega
              have hle : ∀ l : List T, (∀ t ∈ l, t ∈ ts) → ((l.map (rew set)).map (wdt k)).sum ≤ (l.map size).sum := by
                intro l
                induction l with
                | nil => intro _; exact Nat.le_refl _
                | cons a l ihl =>
                  intro hl
                  have h1 := ihl (fun t ht => hl t (List.mem_cons_of_mem _ ht))
                  have h2 := ih a (hl a List.mem_cons_self) (hA.2 a (hl a List.mem_cons_self))
                  have h3 := wdt_MW hk (rew set a)
                  simp only [List.map_cons, List.sum_cons]
                  omega
              refine MW_joinT hk ?_ hsp (fun y hy => ?_)
              · have := hle ts (fun t ht => ht)
                omega
              · obtain ⟨x, hx, rfl⟩ := List.mem_map.mp hy
                have a := ih x hx (hA.2 x hx)
                have b : size x ≤ (ts.map size).sum := le_sum_of_mem (List.mem_map_of_mem hx)
                omega
/-! Changes.two -/
theorem two_ok {M : Mem} {tb : List T} (h : FT M tb) {k : Nat} (hk : k = 20 ∨ k = 21) {a b : Nat} (ha : a < 16 + tb.length) (hb : b < 16 + tb.length) (hw : wdt k (dn tb a) + wdt k (dn tb b) ≤ 2047) (hcap : Cap tb (wdt k (dn tb a) + wdt k (dn tb b))) : ∃ (id : Nat) (M' : Mem) (tc : List T), f_X0_two (nI k) (nI a) (nI b) M = some (nI id, M') ∧ FT M' (tb ++ tc) ∧ id < 16 + (tb ++ tc).length ∧ dn (tb ++ tc) id = joinT k [dn tb a, dn tb b] ∧ tc.length ≤ 1 ∧ stof (tb ++ tc) (tb ++ tc).length ≤ stof tb tb.length + (wdt k (dn tb a) + wdt k (dn tb b)) ∧ (∀ t ∈ tc, t = joinT k [dn tb a, dn tb b]) ∧ ∀ c, c = 0 ∨ (13 ≤ c ∧ c ≠ 13 ∧ c ≠ 15) → M' c = M c := by
  obtain ⟨M1, e1, f1, g1, o1⟩ := begin_ok h k
  obtain ⟨M2, e2, f2, g2, o2⟩ := put_ok f1 hk g1 ha (by simp; omega)
  obtain ⟨M3, e3, f3, g3, o3⟩ := put_ok f2 hk g2 hb (by simp only [List.nil_append, its1_len]; exact hw)
  have hits : [] ++ its1 k (dn tb a) ++ its1 k (dn tb b) = items k [dn tb a, dn tb b] := by
    rw [items_cons, items_cons, items_nil, List.nil_append, List.append_nil]
  rw [hits] at g3
  have hlen : (items k [dn tb a, dn tb b]).length = wdt k (dn tb a) + wdt k (dn tb b) := by rw [items_len]; simp
  have hrl := rowK_len k (items k [dn tb a, dn tb b])
  obtain ⟨id, M4, tc, e4, f4, g4, h4, i4, o4⟩ := done_ok f3 hk g3 (by omega) (fun _ _ => ⟨hcap.1, by have := hcap.2; omega⟩)
  refine ⟨id, M4, tc, ?_, f4, g4, h4, ?_, ?_, ?_, fun c hc => ?_⟩
  · unfold f_X0_two
    rw [e1, Option.bind_some, e2, Option.bind_some, e3, Option.bind_some, e4, Option.bind_some]
  · rcases i4 with ⟨rfl, -⟩ | ⟨rfl, -⟩ <;> simp
  · rcases i4 with ⟨rfl, -⟩ | ⟨rfl, e5⟩
    · simp
    · rw [show (tb ++ [joinI k (items k [dn tb a, dn tb b])]).length = tb.length + 1 by simp, stof_succ (by simp), stof_app (Nat.le_refl _), List.getElem_concat_length (by rfl), e5, nkid_nd]
      omega
  · intro t ht
    rcases i4 with ⟨rfl, -⟩ | ⟨rfl, -⟩
    · cases ht
    · exact List.mem_singleton.mp ht
  · rw [o4 c (by omega), o3 c (by omega) (by omega), o2 c (by omega) (by omega), o1 c (by omega)]
