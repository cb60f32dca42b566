/-! the class: copies of states, history -/
theorem wcopy_50 {cs cd : Nat} {w : Wsh} (hw : okW w) (hne : cs + 3 ≤ cd ∨ cd + 3 ≤ cs) {M0 : Mem} (hR : RCw M0 cs w) (h2 : M0 cd 2 = nI (wP w).length) :
    ∀ (n p : Nat) (M : Mem), p ≤ (wP w).length → (wP w).length - p < n → (∀ c, c ≠ cd + 1 → c ≠ cd + 2 → M c = M0 c) → (∀ q (h : q < (wP w).length), q < p → CP M cd q (wP w)[q]) → ∃ M', f_X5_copyFrom_50 n cd cs (nI p) M = some (nI 0, M') ∧ (∀ c, c ≠ cd + 1 → c ≠ cd + 2 → M' c = M0 c) ∧ ∀ q (h : q < (wP w).length), CP M' cd q (wP w)[q] := by
  have h8 := hw.2.2.2.1
  intro n
  induction n with
  | zero => intro p M _ h; omega
  | succ n ih =>
    intro p M h3 h4 h5 h6
    rw [f_X5_copyFrom_50, h5 cd (by omega) (by omega), h2]
    by_cases hp : p < (wP w).length
    · obtain ⟨t1, t2⟩ := hw.2.2.2.2 (wP w)[p] (List.getElem_mem hp)
      have hc := hR.2.2.2.2.2.2 p hp
      have hcl := codes_len (wP w)[p]
      rw [if_pos ((nlt (by omega) (by omega)).mpr hp), mrd_n (by omega) (by omega), Option.bind_some, h5 (cs + 1) (by omega) (by omega), hc.1, mst_n (by omega) (by omega), Option.bind_some, mrd_n (by omega) (by omega), Option.bind_some, mwr_at, nmul, mcp_n (by omega) (by omega) (by omega) (by omega), Option.bind_some, nI_add]
      generalize hM5 : (fun c => if c = cd + 2 then va_cpy (mwr M (cd + 1) p (nI (size (wP w)[p])) (cs + 2)) (mwr M (cd + 1) p (nI (size (wP w)[p])) (cd + 2)) (p * 120) (p * 120) (size (wP w)[p]) else mwr M (cd + 1) p (nI (size (wP w)[p])) c) = M5
      have g1 : ∀ c, c ≠ cd + 1 → c ≠ cd + 2 → M5 c = M c := fun c a b => by
        rw [← hM5]
        show (if c = cd + 2 then _ else _) = _
        rw [if_neg b, mwr_ne _ _ _ a]
      have g2 : ∀ i, M5 (cd + 1) i = if i = p then nI (size (wP w)[p]) else M (cd + 1) i := fun i => by
        rw [← hM5]
        show (if cd + 1 = cd + 2 then _ else mwr M (cd + 1) p (nI (size (wP w)[p])) (cd + 1)) i = _
        rw [if_neg (show ¬ cd + 1 = cd + 2 by omega)]
        by_cases q : i = p
        · rw [if_pos q, q, mwr_at]
        · rw [if_neg q, mwr_in _ q]
      have g3 : ∀ i, M5 (cd + 2) i = if p * 120 ≤ i ∧ i < p * 120 + size (wP w)[p] then M0 (cs + 2) i else M (cd + 2) i := fun i => by
        rw [← hM5]
        dsimp only
        rw [if_pos rfl, mwr_ne _ _ _ (show cs + 2 ≠ cd + 1 by omega), mwr_ne _ _ _ (show cd + 2 ≠ cd + 1 by omega)]
        by_cases q : p * 120 ≤ i ∧ i < p * 120 + size (wP w)[p]
        · rw [if_pos q, pk_cpy_in q.1 q.2, h5 (cs + 2) (by omega) (by omega)]
          congr 1
          omega
        · rw [if_neg q, pk_cpy_out (by omega)]
      refine ih (p + 1) M5 (by omega) (by omega) (fun c a b => by rw [g1 c a b, h5 c a b]) (fun q hq hqp => ?_)
      by_cases e : q = p
      · subst e
        refine ⟨by rw [g2, if_pos rfl], fun j hj => ?_⟩
        rw [g3, if_pos (by omega)]
        exact hc.2 j hj
      · obtain ⟨u1, u2⟩ := h6 q hq (by omega)
        have s1 := (hw.2.2.2.2 (wP w)[q] (List.getElem_mem hq)).2
        have s2 := codes_len (wP w)[q]
        refine ⟨by rw [g2, if_neg e]; exact u1, fun j hj => ?_⟩
        rw [g3, if_neg (by omega)]
        exact u2 j hj
    · have : p = (wP w).length := by omega
      subst this
      rw [if_neg (fun q => hp ((nlt (by omega) (by omega)).mp q))]
      exact ⟨M, rfl, h5, fun q hq => h6 q hq hq⟩
theorem wcopy_ok {M : Mem} {cs cd : Nat} {w : Wsh} (hw : okW w) (hne : cs + 3 ≤ cd ∨ cd + 3 ≤ cs) (hR : RCw M cs w) : ∃ M', f_X5_copyFrom cd cs M = some (nI 0, M') ∧ RCw M' cd w ∧ ∀ c, c ≠ cd → c ≠ cd + 1 → c ≠ cd + 2 → M' c = M c := by
  obtain ⟨a0, a1, a2, a3, a4, a5, a6⟩ := id hR
  unfold f_X5_copyFrom
  have e : ∀ (N : Mem) (k : Nat) (v : Int32) (i : Nat), mwr N cd k v cs i = N cs i := fun N k v i => mwr_off _ _ _ (by omega)
  rw [a0, mpz_b, Option.bind_some, e, mpi_n, Option.bind_some, e, e, mpi_n, Option.bind_some, e, e, e, mpi_n, Option.bind_some, e, e, e, e, mpi_n, Option.bind_some, e, e, e, e, e, mpi_n, Option.bind_some]
  generalize hM1 : mwr (mwr (mwr (mwr (mwr (mwr M cd 0 (bI w.1)) cd 1 (M cs 1)) cd 2 (M cs 2)) cd 3 (M cs 3)) cd 4 (M cs 4)) cd 5 (M cs 5) = M1
  have far : ∀ c, c ≠ cd → M1 c = M c := fun c hc => by rw [← hM1, mwr_ne _ _ _ hc, mwr_ne _ _ _ hc, mwr_ne _ _ _ hc, mwr_ne _ _ _ hc, mwr_ne _ _ _ hc, mwr_ne _ _ _ hc]
  have z0 : M1 cd 0 = bI w.1 := by rw [← hM1, mwr_in _ (by omega), mwr_in _ (by omega), mwr_in _ (by omega), mwr_in _ (by omega), mwr_in _ (by omega), mwr_at]
  have z1 : M1 cd 1 = nI w.2.1 := by rw [← hM1, mwr_in _ (by omega), mwr_in _ (by omega), mwr_in _ (by omega), mwr_in _ (by omega), mwr_at, a1]
  have z2 : M1 cd 2 = nI (wP w).length := by rw [← hM1, mwr_in _ (by omega), mwr_in _ (by omega), mwr_in _ (by omega), mwr_at, a2]
  have z3 : M1 cd 3 = w.2.2.1 := by rw [← hM1, mwr_in _ (by omega), mwr_in _ (by omega), mwr_at, a3]
  have z4 : M1 cd 4 = w.2.2.2.1 := by rw [← hM1, mwr_in _ (by omega), mwr_at, a4]
  have z5 : M1 cd 5 = nI w.2.2.2.2.1 := by rw [← hM1, mwr_at, a5]
  obtain ⟨M', e1, g1, g2⟩ := wcopy_50 hw hne (hR.congr (M' := M1) (far cs (by omega)) (far _ (by omega)) (far _ (by omega))) z2 fuelN 0 M1 (Nat.zero_le _) (by have := hw.2.2.2.1; unfold fuelN; omega) (fun _ _ _ => rfl) (fun q _ h => by omega)
  rw [e1]
  have gc := g1 cd (by omega) (by omega)
  refine ⟨M', rfl, ⟨by rw [gc]; exact z0, by rw [gc]; exact z1, by rw [gc]; exact z2, by rw [gc]; exact z3, by rw [gc]; exact z4, by rw [gc]; exact z5, g2⟩, fun c h0 h1 h2 => by rw [g1 c h1 h2, far c h0]⟩
theorem scopy_43 {cs cd : Nat} {s : Sta} (hs : okS s) (hne : cs + 27 ≤ cd ∨ cd + 27 ≤ cs) {M0 : Mem} (hR : RC M0 cs s) (h2 : M0 cd 2 = nI s.2.2.length) :
    ∀ (n k : Nat) (M : Mem), k ≤ s.2.2.length → s.2.2.length - k < n → (∀ c, c < cd + 3 ∨ cd + 27 ≤ c → M c = M0 c) → (∀ j (h : j < s.2.2.length), j < k → RCw M (cd + 3 + 3 * j) s.2.2[j]) → ∃ M', f_X4_copyFrom_43 n cd cs (nI k) M = some (nI 0, M') ∧ (∀ c, c < cd + 3 ∨ cd + 27 ≤ c → M' c = M0 c) ∧ ∀ j (h : j < s.2.2.length), RCw M' (cd + 3 + 3 * j) s.2.2[j] := by
  have h8 := hs.2.2.1
  intro n
  induction n with
  | zero => intro k M _ h; omega
  | succ n ih =>
    intro k M h3 h4 h5 h6
    rw [f_X4_copyFrom_43, h5 cd (by omega), h2]
    by_cases hk : k < s.2.2.length
    · have hw := hs.2.2.2 s.2.2[k] (List.getElem_mem hk)
      obtain ⟨M1, e1, r1, o1⟩ := wcopy_ok (M := M) (cs := cs + 3 + 3 * k) (cd := cd + 3 + 3 * k) hw (by omega) ((hR.2.2.2.2 k hk).congr (h5 _ (by omega)) (h5 _ (by omega)) (h5 _ (by omega)))
      rw [if_pos ((nlt (by omega) (by omega)).mpr hk), mlW_ok (by omega), Option.bind_some, mlW_ok (by omega), Option.bind_some, e1, Option.bind_some, nI_add]
      refine ih (k + 1) M1 (by omega) (by omega) (fun c hc => by rw [o1 c (by omega) (by omega) (by omega), h5 c hc]) (fun j hj hjk => ?_)
      by_cases e : j = k
      · subst e; exact r1
      · exact (h6 j hj (by omega)).congr (o1 _ (by omega) (by omega) (by omega)) (o1 _ (by omega) (by omega) (by omega)) (o1 _ (by omega) (by omega) (by omega))
    · have : k = s.2.2.length := by omega
      subst this
      rw [if_neg (fun q => hk ((nlt (by omega) (by omega)).mp q))]
      exact ⟨M, rfl, h5, fun j hj => h6 j hj hj⟩
theorem scopy_ok {M : Mem} {cs cd : Nat} {s : Sta} (hs : okS s) (hne : cs + 27 ≤ cd ∨ cd + 27 ≤ cs) (hR : RC M cs s) : ∃ M', f_X4_copyFrom cd cs M = some (nI 0, M') ∧ RC M' cd s ∧ ∀ c, c < cd ∨ cd + 27 ≤ c → M' c = M c := by
  obtain ⟨a0, a1, a2, a3, a4⟩ := id hR
  have h8 := hs.2.2.1
  have h40 := hs.1
  unfold f_X4_copyFrom
  have e : ∀ (N : Mem) (k : Nat) (v : Int32) (i : Nat), mwr N cd k v cs i = N cs i := fun N k v i => mwr_off _ _ _ (by omega)
  rw [a0, mpz_b, Option.bind_some, e, mpi_n, Option.bind_some, e, e, mpi_n, Option.bind_some]
  have z1' : mwr (mwr (mwr M cd 0 (bI s.1)) cd 1 (M cs 1)) cd 2 (M cs 2) cd 1 = nI s.2.1.length := by rw [mwr_in _ (by omega), mwr_at, a1]
  rw [z1', mcp_n (by omega) (by omega) (by omega) (by omega), Option.bind_some]
  generalize hM3 : mwr (mwr (mwr M cd 0 (bI s.1)) cd 1 (M cs 1)) cd 2 (M cs 2) = M3 at *
  have far : ∀ c, c ≠ cd → M3 c = M c := fun c hc => by rw [← hM3, mwr_ne _ _ _ hc, mwr_ne _ _ _ hc, mwr_ne _ _ _ hc]
  have z0 : M3 cd 0 = bI s.1 := by rw [← hM3, mwr_in _ (by omega), mwr_in _ (by omega), mwr_at]
  have z2 : M3 cd 2 = nI s.2.2.length := by rw [← hM3, mwr_at, a2]
  generalize hM4 : (fun c => if c = cd + 1 then va_cpy (M3 (cs + 1)) (M3 (cd + 1)) 0 0 s.2.1.length else M3 c) = M4
  have g1 : ∀ c, c ≠ cd + 1 → M4 c = M3 c := fun c hc => by rw [← hM4]; exact if_neg hc
  have g2 : ∀ i, i < s.2.1.length → M4 (cd + 1) i = M (cs + 1) i := fun i hi => by
    rw [← hM4]
    dsimp only
    rw [if_pos rfl, pk_cpy_in (Nat.zero_le _) (by omega), far (cs + 1) (by omega)]
    congr 1
    omega
  obtain ⟨M', e1, f1, f2⟩ := scopy_43 hs hne (M0 := M4) (hR.congr hs (fun d h1 h2 => by rw [g1 d (by omega), far d (by omega)])) (by rw [g1 cd (by omega)]; exact z2) fuelN 0 M4 (Nat.zero_le _) (by unfold fuelN; omega) (fun _ _ => rfl) (fun j _ h => by omega)
  rw [e1]
  refine ⟨M', rfl, ⟨by rw [f1 cd (by omega), g1 cd (by omega)]; exact z0, by rw [f1 cd (by omega), g1 cd (by omega)]; exact z1', by rw [f1 cd (by omega), g1 cd (by omega)]; exact z2, fun i hi => by rw [f1 (cd + 1) (by omega), g2 i hi]; exact a3 i hi, f2⟩, fun c hc => by rw [f1 c (by omega), g1 c (by omega), far c (by omega)]⟩
/-! the whole of the class's memory -/
abbrev Abs : Type := Sta × List Sta × Option Sta × List Nat
def okA (a : Abs) : Prop := okS a.1 ∧ a.2.1.length ≤ 4 ∧ (∀ s ∈ a.2.1, okS s) ∧ (∀ s, a.2.2.1 = some s → okS s) ∧ a.2.2.2.length ≤ 60 ∧ ∀ c ∈ a.2.2.2, c < 65536
def isSq (c : Nat) : Prop := isSc c ∧ c ≠ 29
def CEL (M : Mem) (cn cs : Nat) (ch : Nat → Nat) : Prop := M 0 8 = nI cn ∧ M 0 9 = nI cs ∧ (∀ i, i < 4 → M 28 i = nI (ch i)) ∧ isSq cn ∧ isSq cs ∧ (∀ i, i < 4 → isSq (ch i)) ∧ cn ≠ cs ∧ (∀ i, i < 4 → ch i ≠ cn ∧ ch i ≠ cs) ∧ ∀ i j, i < 4 → j < 4 → i ≠ j → ch i ≠ ch j
def RelC' (M : Mem) (a : Abs) (cn cs : Nat) (ch : Nat → Nat) (tb : List T) : Prop :=
  CEL M cn cs ch ∧ FT M tb ∧ RC M cn a.1 ∧ (∀ i (h : i < a.2.1.length), RC M (ch i) a.2.1[i]) ∧ (∀ s, a.2.2.1 = some s → RC M 29 s) ∧ M 0 10 = nI a.2.1.length ∧ M 0 11 = bI a.2.2.1.isSome ∧ M 22 5 = nI a.2.2.2.length ∧ ∀ i (h : i < a.2.2.2.length), a.2.2.2[i] < 65536 ∧ M 23 i = nI a.2.2.2[i]
def RelC (M : Mem) (a : Abs) : Prop := ∃ cn cs ch tb, RelC' M a cn cs ch tb
theorem RelC'.keep {M M' : Mem} {a : Abs} {cn cs : Nat} {ch : Nat → Nat} {tb tb' : List T} (h : RelC' M a cn cs ch tb) (hA : okA a) (hm : ∀ c, c = 0 ∨ c = 23 ∨ 28 ≤ c → M' c = M c) (h5 : M' 22 5 = M 22 5) (hF : FT M' tb') : RelC' M' a cn cs ch tb' := by
  obtain ⟨⟨c1, c2, c3, c4, c5, c6, c7⟩, -, r1, r2, r3, r4, r5, r6, r7⟩ := h
  have h4 := hA.2.1
  refine ⟨⟨by rw [hm 0 (by omega)]; exact c1, by rw [hm 0 (by omega)]; exact c2, fun i hi => by rw [hm 28 (by omega)]; exact c3 i hi, c4, c5, c6, c7⟩, hF, r1.congr hA.1 (fun d p _ => hm d (by have := isSc_ge c4.1; omega)), fun i hi => (r2 i hi).congr (hA.2.2.1 _ (List.getElem_mem hi)) (fun d p _ => hm d (by have := isSc_ge (c6 i (by omega)).1; omega)), fun s hs => (r3 s hs).congr (hA.2.2.2.1 s hs) (fun d p _ => hm d (by omega)), by rw [hm 0 (by omega)]; exact r4, by rw [hm 0 (by omega)]; exact r5, by rw [h5]; exact r6, fun i hi => by rw [hm 23 (by omega)]; exact r7 i hi⟩
def recd (h : List Sta) (s : Sta) : List Sta := (if h.length = 4 then h.tail else h) ++ [s]
theorem recd_len {h : List Sta} {s : Sta} (hl : h.length ≤ 4) : (recd h s).length = if h.length = 4 then 4 else h.length + 1 := by
  unfold recd
  by_cases q : h.length = 4
  · rw [if_pos q, if_pos q, List.length_append, List.length_tail]; simp; omega
  · rw [if_neg q, if_neg q, List.length_append]; simp
theorem recd_mem {h : List Sta} {s x : Sta} (hx : x ∈ recd h s) : x ∈ h ∨ x = s := by
  unfold recd at hx
  rcases List.mem_append.mp hx with hx | hx
  · by_cases q : h.length = 4
    · rw [if_pos q] at hx; exact Or.inl (List.mem_of_mem_tail hx)
    · rw [if_neg q] at hx; exact Or.inl hx
  · exact Or.inr (List.mem_singleton.mp hx)
theorem act_ok {M M' : Mem} {a : Abs} {cn cs : Nat} {ch : Nat → Nat} {tb tb' : List T} (h : RelC' M a cn cs ch tb) (hA : okA a) (hm : ∀ c, c = 0 ∨ c = 23 ∨ (28 ≤ c ∧ (c < cs ∨ cs + 27 ≤ c)) → M' c = M c) (h5 : M' 22 5 = M 22 5) (hF : FT M' tb') {s' : Sta} (hs' : okS s') (hR : RC M' cs s') :
    ∃ (M'' : Mem) (cs' : Nat) (ch' : Nat → Nat), f_X6_recordAndGoOn M' = some (nI 0, M'') ∧ RelC' M'' (s', recd a.2.1 a.1, a.2.2) cs cs' ch' tb' ∧ ∀ c, c ≠ 0 → c ≠ 28 → M'' c = M' c := by
  obtain ⟨⟨c1, c2, c3, c4, c5, c6, c7, c8, c9⟩, -, r1, r2, r3, r4, r5, r6, r7⟩ := h
  have h4 := hA.2.1
  have gn := isSc_ge c4.1
  have gs := isSc_ge c5.1
  -- what is kept when the cells 0 and 28 change
  have keepRC : ∀ (N : Mem), (∀ c, c ≠ 0 → c ≠ 28 → N c = M' c) → RC N cs s' ∧ RC N cn a.1 ∧ (∀ i (h : i < a.2.1.length), RC N (ch i) a.2.1[i]) ∧ (∀ s, a.2.2.1 = some s → RC N 29 s) ∧ FT N tb' ∧ N 22 5 = nI a.2.2.2.length ∧ (∀ i (h : i < a.2.2.2.length), a.2.2.2[i] < 65536 ∧ N 23 i = nI a.2.2.2[i]) := fun N hN => by
    refine ⟨hR.congr hs' (fun d p _ => hN d (by omega) (by omega)), r1.congr hA.1 (fun d p q => ?_), fun i hi => (r2 i hi).congr (hA.2.2.1 _ (List.getElem_mem hi)) (fun d p q => ?_), fun s hs => (r3 s hs).congr (hA.2.2.2.1 s hs) (fun d p q => ?_), hF.congr (fun c p q => hN c (by omega) (by omega)), by rw [hN 22 (by omega) (by omega), h5]; exact r6, fun i hi => by rw [hN 23 (by omega) (by omega), hm 23 (by omega)]; exact r7 i hi⟩
    · have := isSc_far c4.1 c5.1 c7
      rw [hN d (by omega) (by omega), hm d (by omega)]
    · have g := isSc_ge (c6 i (by omega)).1
      have := isSc_far (c6 i (by omega)).1 c5.1 (c8 i (by omega)).2
      rw [hN d (by omega) (by omega), hm d (by omega)]
    · have := isSc_far (Or.inl rfl) c5.1 (fun e => c5.2 e.symm)
      rw [hN d (by omega) (by omega), hm d (by omega)]
  have hrl := recd_len (h := a.2.1) (s := a.1) h4
  have h0 : ∀ i, M' 0 i = M 0 i := fun i => by rw [hm 0 (by omega)]
  have h28 : ∀ i, M' 28 i = M 28 i := fun i => by rw [hm 28 (by omega)]
  unfold f_X6_recordAndGoOn f_X6_recordAndGoOn_88
  rw [h0 10, r4]
  by_cases hl : a.2.1.length < 4
  · rw [if_pos ((nlt (by omega) (by omega)).mpr hl), mrd_n hl (by omega), Option.bind_some, h28, c3 _ hl, mlS_ok (c6 _ hl).1, Option.bind_some, h0 8, c1, mlS_ok c4.1, Option.bind_some, mst_n hl (by omega), Option.bind_some, mwr_off _ _ _ (show (0 : Nat) ≠ 28 by omega), h0 10, r4, nI_add, mpi_n, Option.bind_some]
    rw [mwr_in _ (show (9 : Nat) ≠ 10 by omega), mwr_off _ _ _ (show (0 : Nat) ≠ 28 by omega), h0 9, c2, mlS_ok c5.1, Option.bind_some, mpi_n, Option.bind_some, mpi_n, Option.bind_some]
    generalize hN : mwr (mwr (mwr (mwr M' 28 a.2.1.length (nI cn)) 0 10 (nI (a.2.1.length + 1))) 0 8 (nI cs)) 0 9 (nI (ch a.2.1.length)) = N
    have far : ∀ c, c ≠ 0 → c ≠ 28 → N c = M' c := fun c p q => by rw [← hN, mwr_ne _ _ _ p, mwr_ne _ _ _ p, mwr_ne _ _ _ p, mwr_ne _ _ _ q]
    obtain ⟨k1, k2, k3, k4, k5, k6, k7⟩ := keepRC N far
    have hrec : recd a.2.1 a.1 = a.2.1 ++ [a.1] := by unfold recd; rw [if_neg (by omega)]
    refine ⟨N, ch a.2.1.length, fun i => if i = a.2.1.length then cn else ch i, rfl, ⟨⟨?_, ?_, fun i hi => ?_, c5, c6 _ hl, fun i hi => ?_, fun e => (c8 _ hl).2 e.symm, fun i hi => ?_, fun i j hi hj hij => ?_⟩, k5, k1, fun i hi => ?_, k4, ?_, ?_, k6, k7⟩, far⟩
    · rw [← hN, mwr_in _ (by omega), mwr_at]
    · rw [← hN, mwr_at]
    · rw [← hN, mwr_off _ _ _ (by omega), mwr_off _ _ _ (by omega), mwr_off _ _ _ (by omega)]
      dsimp only
      by_cases q : i = a.2.1.length
      · rw [if_pos q, q, mwr_at]
      · rw [if_neg q, mwr_in _ q, h28, c3 i hi]
    · dsimp only
      split
      · exact c4
      · exact c6 i hi
    · dsimp only
      by_cases q : i = a.2.1.length
      · rw [if_pos q]; exact ⟨c7, fun e => (c8 _ hl).1 e.symm⟩
      · rw [if_neg q]; exact ⟨(c8 i hi).2, c9 i _ hi hl q⟩
    · dsimp only
      by_cases q : i = a.2.1.length
      · rw [if_pos q, if_neg (by omega)]; exact fun e => (c8 j hj).1 e.symm
      · rw [if_neg q]
        by_cases p : j = a.2.1.length
        · rw [if_pos p]; exact (c8 i hi).1
        · rw [if_neg p]; exact c9 i j hi hj hij
    · simp only [hrec]
      rw [hrl, if_neg (by omega)] at hi
      by_cases q : i = a.2.1.length
      · subst q
        rw [if_pos rfl, List.getElem_concat_length (by rfl)]
        exact k2
      · rw [if_neg q, List.getElem_append_left (by omega)]
        exact k3 i (by omega)
    · rw [hrl, if_neg (by omega), ← hN, mwr_in _ (by omega), mwr_in _ (by omega), mwr_at]
    · rw [← hN, mwr_in _ (by omega), mwr_in _ (by omega), mwr_in _ (by omega), mwr_off _ _ _ (by omega), h0]
      exact r5
  · have hl4 : a.2.1.length = 4 := by omega
    have hch : ∀ N : Mem, N 0 = M' 0 → ∀ i, i < 4 → mlS (nI (ch i)) = some (ch i) := fun N _ i hi => mlS_ok (c6 i hi).1
    have s0 := mlS_ok (c6 0 (by omega)).1
    have s1 := mlS_ok (c6 1 (by omega)).1
    have s2 := mlS_ok (c6 2 (by omega)).1
    have s3 := mlS_ok (c6 3 (by omega)).1
    rw [if_neg (fun q => hl ((nlt (by omega) (by omega)).mp q)), mrd_n (by omega) (by omega), Option.bind_some, h28, c3 0 (by omega), s0, Option.bind_some]
    unfold fuelN
    rw [f_X6_recordAndGoOn_53, if_pos (by decide), mrd_n (by omega) (by omega), Option.bind_some, h28, c3 1 (by omega), s1, Option.bind_some, nsub (by omega), mst_n (by omega) (by omega), Option.bind_some, nI_add]
    rw [f_X6_recordAndGoOn_53, if_pos (by decide), mrd_n (by omega) (by omega), Option.bind_some, mwr_in _ (by omega), h28, c3 2 (by omega), s2, Option.bind_some, nsub (by omega), mst_n (by omega) (by omega), Option.bind_some, nI_add]
    rw [f_X6_recordAndGoOn_53, if_pos (by decide), mrd_n (by omega) (by omega), Option.bind_some, mwr_in _ (by omega), mwr_in _ (by omega), h28, c3 3 (by omega), s3, Option.bind_some, nsub (by omega), mst_n (by omega) (by omega), Option.bind_some, nI_add]
    rw [f_X6_recordAndGoOn_53, if_neg (by decide), mwr_off _ _ _ (show (0 : Nat) ≠ 28 by omega), mwr_off _ _ _ (show (0 : Nat) ≠ 28 by omega), mwr_off _ _ _ (show (0 : Nat) ≠ 28 by omega), h0 8, c1, mlS_ok c4.1, Option.bind_some, mst_n (by omega) (by omega), Option.bind_some]
    unfold f_X6_recordAndGoOn_88
    rw [mwr_off _ _ _ (show (0 : Nat) ≠ 28 by omega), mwr_off _ _ _ (show (0 : Nat) ≠ 28 by omega), mwr_off _ _ _ (show (0 : Nat) ≠ 28 by omega), mwr_off _ _ _ (show (0 : Nat) ≠ 28 by omega), h0 9, c2, mlS_ok c5.1, Option.bind_some, mpi_n, Option.bind_some, mpi_n, Option.bind_some]
    generalize hN : mwr (mwr (mwr (mwr (mwr (mwr M' 28 (1 - 1) (nI (ch 1))) 28 (1 + 1 - 1) (nI (ch 2))) 28 (1 + 1 + 1 - 1) (nI (ch 3))) 28 3 (nI cn)) 0 8 (nI cs)) 0 9 (nI (ch 0)) = N
    have far : ∀ c, c ≠ 0 → c ≠ 28 → N c = M' c := fun c p q => by rw [← hN, mwr_ne _ _ _ p, mwr_ne _ _ _ p, mwr_ne _ _ _ q, mwr_ne _ _ _ q, mwr_ne _ _ _ q, mwr_ne _ _ _ q]
    obtain ⟨k1, k2, k3, k4, k5, k6, k7⟩ := keepRC N far
    have hrec : recd a.2.1 a.1 = a.2.1.tail ++ [a.1] := by unfold recd; rw [if_pos hl4]
    have htl : a.2.1.tail.length = 3 := by rw [List.length_tail]; omega
    refine ⟨N, ch 0, fun i => if i < 3 then ch (i + 1) else cn, rfl, ⟨⟨?_, ?_, fun i hi => ?_, c5, c6 0 (by omega), fun i hi => ?_, fun e => (c8 0 (by omega)).2 e.symm, fun i hi => ?_, fun i j hi hj hij => ?_⟩, k5, k1, fun i hi => ?_, k4, ?_, ?_, k6, k7⟩, far⟩
    · rw [← hN, mwr_in _ (by omega), mwr_at]
    · rw [← hN, mwr_at]
    · rw [← hN, mwr_off _ _ _ (by omega), mwr_off _ _ _ (by omega)]
      have i4 : i = 0 ∨ i = 1 ∨ i = 2 ∨ i = 3 := by omega
      rcases i4 with rfl | rfl | rfl | rfl
      · rw [mwr_in _ (by omega), mwr_in _ (by omega), mwr_in _ (by omega), mwr_at]; rfl
      · rw [mwr_in _ (by omega), mwr_in _ (by omega), mwr_at]; rfl
      · rw [mwr_in _ (by omega), mwr_at]; rfl
      · rw [mwr_at]; rfl
    · dsimp only
      split
      · exact c6 _ (by omega)
      · exact c4
    · dsimp only
      by_cases q : i < 3
      · rw [if_pos q]; exact ⟨(c8 (i + 1) (by omega)).2, c9 (i + 1) 0 (by omega) (by omega) (by omega)⟩
      · rw [if_neg q]; exact ⟨c7, fun e => (c8 0 (by omega)).1 e.symm⟩
    · dsimp only
      by_cases q : i < 3
      · rw [if_pos q]
        by_cases p : j < 3
        · rw [if_pos p]; exact c9 _ _ (by omega) (by omega) (by omega)
        · rw [if_neg p]; exact (c8 (i + 1) (by omega)).1
      · rw [if_neg q, if_pos (by omega)]; exact fun e => (c8 (j + 1) (by omega)).1 e.symm
    · simp only [hrec]
      rw [hrl, if_pos hl4] at hi
      by_cases q : i < 3
      · rw [if_pos q, List.getElem_append_left (by omega), List.getElem_tail]
        exact k3 (i + 1) (by omega)
      · have : i = 3 := by omega
        subst this
        rw [if_neg (by omega), List.getElem_append_right (by omega)]
        simp only [htl, Nat.sub_self, List.getElem_cons_zero]
        exact k2
    · rw [hrl, if_pos hl4, ← hN, mwr_in _ (by omega), mwr_in _ (by omega), mwr_off _ _ _ (by omega), mwr_off _ _ _ (by omega), mwr_off _ _ _ (by omega), mwr_off _ _ _ (by omega), h0, r4, hl4]
    · rw [← hN, mwr_in _ (by omega), mwr_in _ (by omega), mwr_off _ _ _ (by omega), mwr_off _ _ _ (by omega), mwr_off _ _ _ (by omega), mwr_off _ _ _ (by omega), h0]
      exact r5
