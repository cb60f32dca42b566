theorem KL.sim {l : Launch} {R : Room} {nL : Nat} {G : GL} {A : Nat → Prop} {Q : State → Prop} {X : CT} {cells slots : Nat} {ws ws' : va_W} {L : List (Option Value)} {pc : Nat} {stk : List Value} (h : simW G.1 ws ws') (kk : va_D A ws' → KL l R nL G A Q X cells slots ws' L pc stk) : KL l R nL G A Q X cells slots ws L pc stk := fun H locs ls hP hD hS hl => kk (simW_D h hD) H locs ls (simW_P h hP) (simW_D h hD) hS hl
theorem AdOK.of {G : GL} {ad : Nat → Nat} {E : Nat → va_E} (h : va_D G.2.2.1 (wl ad E)) : AdOK G ad := ⟨fun i j hi hj e => h.1 i j _ _ (wl_at hi) (wl_at hj) e, fun i hi => h.2 i _ (wl_at hi)⟩
theorem l_widen {l : Launch} {R : Room} {nL : Nat} {G : GL} {A : Nat → Prop} {Q : State → Prop} {X : CT} {cells slots : Nat} {ws : va_W} {L : List (Option Value)} {pc : Nat} {stk : List Value} {c' s' : Nat} (h1 : cells ≤ c') (h2 : slots ≤ s') (kk : KL l R nL G A Q X c' s' ws L pc stk) : KL l R nL G A Q X cells slots ws L pc stk := fun H locs ls hP hD hS hl => W.widen h1 h2 (kk H locs ls hP hD hS hl)
set_option maxHeartbeats 4000000 in
set_option maxRecDepth 100000 in
/-- the law's walk, out of what its program answers -/
theorem whole_of (h0 : ∀ (n : Nat) (xs : Nat → Int32), n ≤ 260 → ∃ r, f_L_law (n, xs) MC0 = some r) {p : Program} {e : Env} {s : State} {m : MethodId} {below : List Frame} {meth : Method} {c : Code} (l : Launch) {b L : Nat} {xs : Nat → Int32} (hL : L ≤ 260) (C0 : lw_At p s m meth c b L xs) : W p l e room_1 s m #[Value.ref b] below meth c s.heap [] 0 0 (lw_Z below #[Value.ref b] s) (entryFrame m ([Value.ref b] : List Value).toArray 7) := by
  obtain ⟨hx, hb, hr, hml, hown, hts, hXs, hbl, hlocks, hgv⟩ := id C0
  obtain ⟨G, hGA, hGS, hTb, hAO⟩ := law_setup hXs hbl hts hgv
  have hGb : G.2.2.2.2.2.1 = b := by rw [hGS]
  have hGs : (L, xs) = G.2.2.2.2.2.2 := by rw [hGS]
  have hX : CxL l room_1 cL_law RL 7 G G.2.2.1 (p, e, s, m, #[Value.ref b], below, meth, c) := ⟨hx, hb, hml, hown, fun w hw => hts w (BIG_tbl hw), hTb, fun q h => by rw [hGA]; exact h, fun _ h => h, hlocks, hAO⟩
  have K : KL l room_1 7 G G.2.2.1 (lw_Z below #[Value.ref b] s) (p, e, s, m, #[Value.ref b], below, meth, c) 0 0 [] [some (.ref b), none, none, none, none, none, none] 0 [] := by
    refine l_new (ci := 6) (fs := [.null, .null, .null, .null, .null, .null, .null, .null, .null, .null, .int 0, .int 0]) hX tyX6 tyX6_ok inb_X6 (mem_big 60 (by decide +kernel) rfl) (mem_big 61 (by decide +kernel) rfl) (mem_big 52 (by decide +kernel) rfl) rfl (by decide) (Nat.le_of_ble_eq_true rfl) (Nat.le_of_ble_eq_true rfl) dL_law_0 (fun q1 => ?_)
    refine l_dup hX rfl dL_law_3 ?_
    refine l_call (n := 0) (vs := []) (wr := []) (wc := [(q1, .inr (6, [.null, .null, .null, .null, .null, .null, .null, .null, .null, .null, .int 0, .int 0]))]) hX (ct_X6_init (h0 := q1)) ⟨⟨Or.inl (mem_big 62 (by decide +kernel) rfl), (mem_big 64 (by decide +kernel) rfl), (mem_big 52 (by decide +kernel) rfl), by decide +kernel⟩, (mem_big 63 (by decide +kernel) rfl), rfl⟩ rfl rfl rfl (Nat.le_of_ble_eq_true rfl) ⟨Nat.le_of_ble_eq_true rfl, Nat.le_of_ble_eq_true rfl⟩ ⟨Nat.le_of_ble_eq_true rfl, Nat.le_of_ble_eq_true rfl⟩ dL_law_4 (fun w1 hw1 => ?_)
    obtain ⟨q13, q14, q15, b3, b6, b9, b12, b18, b21, b24, b27, b30, b33, b36, rfl⟩ := hw1
    refine KL.world (ws' := twL G q1 q13 q14 q15 b3 b6 b9 b12 b18 b21 b24 b27 b30 b33 b36) rfl ?_
    refine l_astore_n (L' := [some (.ref b), some (.ref q1), none, none, none, none, none]) hX (i := 1) rfl (by decide) rfl dL_law_7 ?_
    refine l_widen (c' := 600000) (s' := 7302249) (Nat.le_of_ble_eq_true rfl) (Nat.le_of_ble_eq_true rfl) ?_
    refine KL.sim (world0 G q1 q13 q14 q15 b3 b6 b9 b12 b18 b21 b24 b27 b30 b33 b36) (fun hD => ?_)
    have hAd : AdOK G (adF q1 q13 q14 q15 b3 b6 b9 b12 b18 b21 b24 b27 b30 b33 b36) := AdOK.of hD
    have hXF : Cx l room_1 cL_law RL 7 (some .boolean) G (adF q1 q13 q14 q15 b3 b6 b9 b12 b18 b21 b24 b27 b30 b33 b36) (p, e, s, m, #[Value.ref b], below, meth, c) := ⟨hx, hb, hml, hown, fun w hw => hts w (BIG_tbl hw), hTb, hAd, hr, hlocks⟩
    obtain ⟨r, hrr⟩ := h0 L xs hL
    intro H locs ls hP hD hS hl
    have K2 := w_L_law (MM := MM0) (M := MC0) (p1 := (L, xs)) hXF ⟨hGA, by rw [hGb]⟩ hGs r hrr H locs ls hP hS
    rw [hGb] at K2
    exact K2 hl
  have hl := lv_entry ([.ref b]) (n := 7) (Nat.le_of_ble_eq_true rfl)
  rw [lg_entry_eq]
  generalize (lg_sl ([.ref b]) ++ List.replicate (7 - (lg_sl ([.ref b])).length) Slot.unset).toArray = ls at hl ⊢
  refine K s.heap [] ls (fun k q h => by simp at h) ⟨fun i j p q h => by simp at h, fun k q h => by simp at h⟩ va_S.rf (lvh_entry hl (fun v hv => by simp at hv; subst hv; rfl) (fun i v h => ?_))
  match i, h with
  | 0, h => cases h; rfl
  | 1, h => cases h
  | 2, h => cases h
  | 3, h => cases h
  | 4, h => cases h
  | 5, h => cases h
  | 6, h => cases h
  | i + 7, h => cases h
