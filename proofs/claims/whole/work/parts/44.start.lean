theorem KL.sim {l : Launch} {R : Room} {nL : Nat} {G : GL} {A : Nat → Prop} {Q : State → Prop} {X : CT} {cells slots : Nat} {ws ws' : va_W} {L : List (Option Value)} {pc : Nat} {stk : List Value} (h : simW G.1 ws ws') (kk : va_D A ws' → KL l R nL G A Q X cells slots ws' L pc stk) : KL l R nL G A Q X cells slots ws L pc stk := fun H locs ls hP hD hS hl => kk (simW_D h hD) H locs ls (simW_P h hP) (simW_D h hD) hS hl
theorem AdOK.of {G : GL} {ad : Nat → Nat} {E : Nat → va_E} (h : va_D G.2.2.1 (wl ad E)) : AdOK G ad := ⟨fun i j hi hj e => h.1 i j _ _ (wl_at hi) (wl_at hj) e, fun i hi => h.2 i _ (wl_at hi)⟩
set_option maxHeartbeats 4000000 in
set_option maxRecDepth 100000 in
/-- the law's walk, out of a relation of the two memories that holds at first and is kept by every call -/
theorem whole_of {Rel : Mem → Mem → Prop} (hR : LawRel Rel) (h0 : Rel MC0 MM0) {p : Program} {e : Env} {s : State} {m : MethodId} {below : List Frame} {meth : Method} {c : Code} (l : Launch) {b L : Nat} {xs : Nat → Int32} (hL : L ≤ 2048) (C0 : lw_At p s m meth c b L xs) : W p l e room_1 s m #[Value.ref b] below meth c s.heap [] 0 0 (lw_Z below #[Value.ref b] s) (entryFrame m ([Value.ref b] : List Value).toArray 4) := by
  obtain ⟨hx, hb, hr, hml, hown, hts, hXs, hbl, hlocks, hgv⟩ := id C0
  obtain ⟨G, hGA, hTb, hAO⟩ := law_setup hts hgv
  have hbA : ¬ G.2.2.1 b := by rw [hGA]; exact Nat.not_le.mpr hbl
  have hX : CxL l room_1 cL_law RL 4 G G.2.2.1 (p, e, s, m, #[Value.ref b], below, meth, c) := ⟨hx, hb, hml, hown, fun w hw => hts w (BIG_tbl hw), hTb, fun q h => by rw [hGA]; exact h, fun _ h => h, hlocks, hAO⟩
  have hB : va_X b L xs s s.heap ∧ b < s.heap.size ∧ ¬ G.2.2.1 b := ⟨hXs, hbl, hbA⟩
  have K : KL l room_1 4 G G.2.2.1 (lw_Z below #[Value.ref b] s) (p, e, s, m, #[Value.ref b], below, meth, c) 0 0 [] [some (.ref b), none, none, none] 0 [] := by
    refine l_new (ci := 6) (fs := [.null, .null, .null, .null, .null, .null, .null, .null, .null, .null, .int 0, .int 0]) hX tyX6 tyX6_ok inb_X6 (mem_big 112 (by decide +kernel) rfl) (mem_big 113 (by decide +kernel) rfl) (mem_big 103 (by decide +kernel) rfl) rfl (by decide) (Nat.le_of_ble_eq_true rfl) (Nat.le_of_ble_eq_true rfl) dL_law_0 (fun q1 => ?_)
    refine l_dup hX rfl dL_law_3 ?_
    refine l_call (n := 0) (vs := []) (wr := []) (wc := [(q1, .inr (6, [.null, .null, .null, .null, .null, .null, .null, .null, .null, .null, .int 0, .int 0]))]) hX (ct_X6_init (h0 := q1)) ⟨⟨Or.inl (mem_big 114 (by decide +kernel) rfl), (mem_big 116 (by decide +kernel) rfl), (mem_big 103 (by decide +kernel) rfl), by decide +kernel⟩, (mem_big 115 (by decide +kernel) rfl), rfl⟩ rfl rfl rfl (Nat.le_of_ble_eq_true rfl) ⟨Nat.le_of_ble_eq_true rfl, Nat.le_of_ble_eq_true rfl⟩ ⟨Nat.le_of_ble_eq_true rfl, Nat.le_of_ble_eq_true rfl⟩ dL_law_4 (fun w1 hw1 => ?_)
    obtain ⟨q13, q14, q15, b3, b6, b9, b12, b18, b21, b24, b27, b30, b33, b36, rfl⟩ := hw1
    refine KL.world (ws' := twL G q1 q13 q14 q15 b3 b6 b9 b12 b18 b21 b24 b27 b30 b33 b36) rfl ?_
    refine l_astore_n (L' := [some (.ref b), some (.ref q1), none, none]) hX (i := 1) rfl (by decide) rfl dL_law_7 ?_
    refine l_new (ci := 7) (fs := [.null, .null, .null, .null, .null, .null, .null, .null, .null, .null, .null, .int 0, .int 0, .null, .int 0, .int 0, .null, .null, .int 0, .int 0, .null, .int 0, .null, .int 0, .int 0, .int 0]) hX tyX7 tyX7_ok inb_X7 (mem_big 703 (by decide +kernel) rfl) (mem_big 704 (by decide +kernel) rfl) (mem_big 110 (by decide +kernel) rfl) rfl (by decide) (Nat.le_of_ble_eq_true rfl) (Nat.le_of_ble_eq_true rfl) dL_law_8 (fun q2 => ?_)
    refine l_dup hX rfl dL_law_11 ?_
    refine l_call (n := 0) (vs := []) (wr := twL G q1 q13 q14 q15 b3 b6 b9 b12 b18 b21 b24 b27 b30 b33 b36) (wc := [(q2, .inr (7, [.null, .null, .null, .null, .null, .null, .null, .null, .null, .null, .null, .int 0, .int 0, .null, .int 0, .int 0, .null, .null, .int 0, .int 0, .null, .int 0, .null, .int 0, .int 0, .int 0]))]) hX (ct_X7_init (h0 := q2)) ⟨⟨Or.inl (mem_big 705 (by decide +kernel) rfl), (mem_big 707 (by decide +kernel) rfl), (mem_big 110 (by decide +kernel) rfl), by decide +kernel⟩, (mem_big 706 (by decide +kernel) rfl), rfl⟩ rfl rfl rfl (Nat.le_of_ble_eq_true rfl) ⟨Nat.le_of_ble_eq_true rfl, Nat.le_of_ble_eq_true rfl⟩ ⟨Nat.le_of_ble_eq_true rfl, Nat.le_of_ble_eq_true rfl⟩ dL_law_12 (fun w2 hw2 => ?_)
    obtain ⟨e, he, rfl⟩ := hw2
    subst he
    refine l_astore_n (L' := [some (.ref b), some (.ref q1), some (.ref (e 0)), none]) hX (i := 2) rfl (by decide) rfl dL_law_15 ?_
    refine l_iconst (v := 0) hX rfl dL_law_16 ?_
    refine l_istore_n (L' := [some (.ref b), some (.ref q1), some (.ref (e 0)), some (.int (nI 0))]) hX (i := 3) rfl (by decide) rfl dL_law_17 ?_
    refine l_widen (c' := 600000) (s' := 7302250) (Nat.le_of_ble_eq_true rfl) (Nat.le_of_ble_eq_true rfl) ?_
    refine KL.sim (world0 G q1 q13 q14 q15 b3 b6 b9 b12 b18 b21 b24 b27 b30 b33 b36 e) (fun hD => ?_)
    have hAd : AdOK G (adF q1 q13 q14 q15 b3 b6 b9 b12 b18 b21 b24 b27 b30 b33 b36 e) := AdOK.of hD
    refine law_loop (ad := adF q1 q13 q14 q15 b3 b6 b9 b12 b18 b21 b24 b27 b30 b33 b36 e) hR hX rfl hAd hB hL (fun MC MM i => ?_) (L + 5) 0 MC0 MM0 (Nat.zero_le _) (by omega) h0
    refine l_iconst (v := 1) hX rfl dL_law_588 ?_
    intro H locs ls hP hD hS hl
    refine va_forget (fun q hq => ?_) (lw_ret hx hb hr hlocks dL_law_589)
    have := hS.2.2 q hq
    rw [hGA] at this
    exact this
  have hl := lv_entry ([.ref b]) (n := 4) (Nat.le_of_ble_eq_true rfl)
  rw [lg_entry_eq]
  generalize (lg_sl ([.ref b]) ++ List.replicate (4 - (lg_sl ([.ref b])).length) Slot.unset).toArray = ls at hl ⊢
  refine K s.heap [] ls (fun k q h => by simp at h) ⟨fun i j p q h => by simp at h, fun k q h => by simp at h⟩ va_S.rf (lvh_entry hl (fun v hv => by simp at hv; subst hv; rfl) (fun i v h => ?_))
  match i, h with
  | 0, h => cases h; rfl
  | 1, h => cases h
  | 2, h => cases h
  | 3, h => cases h
  | i + 4, h => cases h
