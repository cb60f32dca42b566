/-! the opposite of a plain form is plain, and its opposite is the form -/
theorem opp_lf {k : Nat} (h : k < 16) : opp (lf k) = lf (opk k) := by
  unfold lf
  rw [opp_nd]
  unfold oppN
  rw [if_pos h]
  rfl
theorem has_opp {ts : List T} (h : ∀ t ∈ ts, kind t < 22 ∧ kind (opp t) = okd (kind t)) {i : Nat} (hi : i < 22) : has (ts.map opp) i = has ts (okd i) := by
  have key : has (ts.map opp) i = true ↔ has ts (okd i) = true := by
    rw [has_iff, has_iff]
    constructor
    · rintro ⟨t, ht, e⟩
      obtain ⟨u, hu, rfl⟩ := List.mem_map.mp ht
      have a := h u hu
      refine ⟨u, hu, ?_⟩
      rw [← e, a.2, (okd_okd _ a.1).1]
    · rintro ⟨u, hu, e⟩
      have a := h u hu
      exact ⟨opp u, List.mem_map_of_mem hu, by rw [a.2, e, (okd_okd i hi).1]⟩
  cases a : has (ts.map opp) i <;> cases b : has ts (okd i) <;> simp_all
theorem any_eq {f g : Nat → Bool} : ∀ l : List Nat, (∀ s ∈ l, f s = g s) → l.any f = l.any g := by
  intro l
  induction l with
  | nil => intro _; rfl
  | cons a l ih =>
    intro h
    rw [List.any_cons, List.any_cons, h a List.mem_cons_self, ih (fun s hs => h s (List.mem_cons_of_mem _ hs))]
theorem okd_lf {j : Nat} (h : j < 16) : okd j = opk j := if_pos h
theorem absb_opp {ts : List T} (h : ∀ t ∈ ts, kind t < 22 ∧ kind (opp t) = okd (kind t)) {k : Nat} (hk : k = 20 ∨ k = 21) : absb (41 - k) (ts.map opp) = absb k ts := by
  have r : ((List.range 6).any fun s => has (ts.map opp) (4 + s) && has (ts.map opp) (10 + s)) = (List.range 6).any fun s => has ts (4 + s) && has ts (10 + s) := by
    refine any_eq _ (fun s hs => ?_)
    have hs := List.mem_range.mp hs
    rw [has_opp h (by omega), has_opp h (by omega), Bool.and_comm]
    have e1 : okd (10 + s) = 4 + s := by unfold okd opk; rw [if_pos (by omega), if_neg (by omega), if_neg (by omega), if_neg (by omega)]; omega
    have e2 : okd (4 + s) = 10 + s := by unfold okd opk; rw [if_pos (by omega), if_neg (by omega), if_neg (by omega), if_pos (by omega)]; omega
    rw [e1, e2]
  unfold absb
  rw [r, has_opp h (show 2 < 22 by omega), has_opp h (show 3 < 22 by omega), show okd 2 = 3 by decide, show okd 3 = 2 by decide, Bool.and_comm (has ts 3)]
  have : has (ts.map opp) (1 - neu (41 - k)) = has ts (1 - neu k) := by
    rcases hk with rfl | rfl
    · exact has_opp h (show 1 < 22 by omega)
    · exact has_opp h (show 0 < 22 by omega)
  rw [this]
theorem opp_NF : ∀ t : T, AR t = true → NF t → NF (opp t) ∧ opp (opp t) = t ∧ kind (opp t) = okd (kind t) := by
  intro t
  induction t using T_ind with
  | h k ts ih =>
    intro hA hN
    have hk21 := AR_le hA
    have hkd := AR_kind hA
    rw [kind_nd] at hk21
    rw [kind_nd, kids_nd] at hkd
    have hAk := ((AR_nd _ _).mp hA).2
    have hNk := ((NF_nd _ _).mp hN).1
    have hK : ∀ t ∈ ts, NF (opp t) ∧ opp (opp t) = t ∧ kind (opp t) = okd (kind t) := fun t ht => ih t ht (hAk t ht) (hNk t ht)
    have hKk : ∀ t ∈ ts, kind t < 22 ∧ kind (opp t) = okd (kind t) := fun t ht => ⟨by have := AR_le (hAk t ht); omega, (hK t ht).2.2⟩
    have hoo : (ts.map opp).map opp = ts := by
      rw [List.map_map]
      conv => rhs; rw [← List.map_id ts]
      exact List.map_congr_left (fun t ht => (hK t ht).2.1)
    rw [kind_nd]
    by_cases h16 : k < 16
    · have hts : ts = [] := by
        rcases hkd with q | q | q | q
        · exact q.2
        · omega
        · omega
        · omega
      subst hts
      have e := opp_lf h16
      have ho : opk k = okd k := by unfold okd; rw [if_pos h16]
      have h2 : okd k < 16 := by
        revert h16
        generalize k = j
        revert j
        decide
      show NF (opp (lf k)) ∧ opp (opp (lf k)) = lf k ∧ _
      rw [show opp (nd k []) = opp (lf k) from rfl, e, ho, opp_lf h2, kind_lf]
      have := (okd_okd k (by omega)).1
      refine ⟨NF_lf _ h2, ?_, rfl⟩
      have h3 : opk (okd k) = okd (okd k) := (okd_lf h2).symm
      rw [h3, this]
    · by_cases h20 : k < 20
      · have e : ∀ {j : Nat} (us : List T), 16 ≤ j → j < 20 → opp (nd j us) = nd (okd j) (us.map opp) := fun {j} us h1 h2 => by
          rw [opp_nd]
          have : j = 16 ∨ j = 17 ∨ j = 18 ∨ j = 19 := by omega
          rcases this with rfl | rfl | rfl | rfl <;> rfl
        have h3 : 16 ≤ okd k ∧ okd k < 20 := by
          unfold okd
          rw [if_neg h16]
          split
          · omega
          · omega
        rw [e ts (by omega) h20, e _ h3.1 h3.2, hoo, (okd_okd k (by omega)).1, kind_nd]
        refine ⟨(NF_nd _ _).mpr ⟨fun t ht => ?_, fun h => by omega⟩, rfl, rfl⟩
        obtain ⟨u, hu, rfl⟩ := List.mem_map.mp ht
        exact (hK u hu).1
      · have hk : k = 20 ∨ k = 21 := by omega
        obtain ⟨p1, p2, p3⟩ := ((NF_nd _ _).mp hN).2 hk
        have two : ∃ x y, x ∈ ts ∧ y ∈ ts ∧ x ≠ y := by
          rcases hkd with q | q | q | ⟨-, x, y, l, q⟩
          · omega
          · omega
          · omega
          · subst q
            refine ⟨x, y, List.mem_cons_self, List.mem_cons_of_mem _ List.mem_cons_self, fun e => ?_⟩
            subst e
            have := (List.pairwise_cons.mp p1).1 x List.mem_cons_self
            rw [ah_irr] at this
            cases this
        have eo : ∀ (us : List T) {j : Nat}, j = 20 ∨ j = 21 → opp (nd j us) = joinT (41 - j) (us.map opp) := fun us {j} hj => by
          rw [opp_nd]
          unfold oppN
          rw [if_neg (by omega), if_neg (by omega), if_neg (by omega), if_neg (by omega), if_neg (by omega)]
        have ok2 : okd k = 41 - k := by unfold okd; rw [if_neg h16, if_neg (by omega), if_neg h20]
        have hLp : ∀ t ∈ ts.map opp, kind t ≠ 41 - k ∧ kind t ≠ neu (41 - k) := by
          intro t ht
          obtain ⟨u, hu, rfl⟩ := List.mem_map.mp ht
          have a := hKk u hu
          have b := p3 u hu
          rw [a.2]
          constructor
          · intro e
            exact b.1 (okd_inj a.1 (by omega) (by rw [e, ok2]))
          · intro e
            refine b.2 (okd_inj a.1 (by have := neu_lt k; omega) ?_)
            rw [e]
            rcases hk with rfl | rfl <;> rfl
        have hLA : allAR (ts.map opp) := fun t ht => by
          obtain ⟨u, hu, rfl⟩ := List.mem_map.mp ht
          exact opp_AR u (hAk u hu)
        have hab := absb_opp hKk hk
        rw [p2] at hab
        obtain ⟨x, y, hx, hy, hxy⟩ := two
        have hxy2 : opp x ≠ opp y := fun e => hxy (by rw [← (hK x hx).2.1, e, (hK y hy).2.1])
        have hri := row_iff hLA
        have hrs : Srt (rowT [] (ts.map opp)) := rowT_srt srt_nil
        have e1 : opp (nd k ts) = nd (41 - k) (rowT [] (ts.map opp)) := by
          rw [eo ts hk, join_pln hLp hab]
          exact endT_two ((hri _).mpr (List.mem_map_of_mem hx)) ((hri _).mpr (List.mem_map_of_mem hy)) hxy2
        have hL2 : ∀ z, z ∈ (rowT [] (ts.map opp)).map opp ↔ z ∈ ts := fun z => by
          constructor
          · intro hz
            obtain ⟨u, hu, rfl⟩ := List.mem_map.mp hz
            obtain ⟨v, hv, rfl⟩ := List.mem_map.mp ((hri u).mp hu)
            rw [(hK v hv).2.1]; exact hv
          · intro hz
            rw [← (hK z hz).2.1]
            exact List.mem_map_of_mem ((hri _).mpr (List.mem_map_of_mem hz))
        have hL2A : allAR ((rowT [] (ts.map opp)).map opp) := fun z hz => hAk z ((hL2 z).mp hz)
        have e2 : opp (nd (41 - k) (rowT [] (ts.map opp))) = nd k ts := by
          rw [eo _ (by omega), show 41 - (41 - k) = k by omega, join_pln (fun z hz => p3 z ((hL2 z).mp hz)) (absb_mono (fun z hz => (hL2 z).mp hz) p2)]
          have : rowT [] ((rowT [] (ts.map opp)).map opp) = ts := Srt_uniq (rowT_srt srt_nil) p1 (fun z => (row_iff hL2A z).trans (hL2 z))
          rw [this]
          exact endT_two hx hy hxy
        rw [e1, e2, kind_nd]
        refine ⟨(NF_nd _ _).mpr ⟨fun t ht => ?_, fun _ => ⟨hrs, absb_mono (fun z hz => (hri z).mp hz) hab, fun z hz => hLp z ((hri z).mp hz)⟩⟩, rfl, ok2.symm⟩
        obtain ⟨u, hu, rfl⟩ := List.mem_map.mp ((hri t).mp ht)
        exact (hK u hu).1
