theorem NW_in1 : ∀ q ∈ NWf, Cond.fieldLinkNest q.1 q.2.1 q.2.2.1 q.2.2.2.1 q.2.2.2.2.1 q.2.2.2.2.2 ∈ lw_tbl := by
  intro q hq
  have h : NWf.map (fun q => Cond.fieldLinkNest q.1 q.2.1 q.2.2.1 q.2.2.2.1 q.2.2.2.2.1 q.2.2.2.2.2) = [74, 77, 78, 79, 82, 83, 84, 86, 87, 89, 91, 98, 167, 199, 234, 235, 237, 238, 240, 242, 244, 246, 248, 249, 251, 270, 272, 274, 276, 278, 396, 634, 639].filterMap (fun i => lw_tbl[i]?) := by decide +kernel
  have h1 := List.mem_map_of_mem (f := fun q : String × Nat × String × String × String × String => Cond.fieldLinkNest q.1 q.2.1 q.2.2.1 q.2.2.2.1 q.2.2.2.2.1 q.2.2.2.2.2) hq
  rw [h] at h1
  obtain ⟨i, -, hi⟩ := List.mem_filterMap.mp h1
  exact List.mem_of_getElem? hi
theorem NW_in2 : ∀ q ∈ NWm, Cond.methodLinkNest q.1 q.2.1 q.2.2.1 q.2.2.2 ∈ lw_tbl := by
  intro q hq
  have h : NWm.map (fun q => Cond.methodLinkNest q.1 q.2.1 q.2.2.1 q.2.2.2) = [70, 132, 160, 189, 222, 229, 331, 338, 351, 355, 359, 372, 376, 392, 407, 412, 416, 417, 455, 460, 476, 491, 499, 504, 516, 517, 525, 529, 553, 558, 566, 583, 622, 651, 655, 659, 679, 680, 681, 682].filterMap (fun i => lw_tbl[i]?) := by decide +kernel
  have h1 := List.mem_map_of_mem (f := fun q : String × Nat × MethodName × String => Cond.methodLinkNest q.1 q.2.1 q.2.2.1 q.2.2.2) hq
  rw [h] at h1
  obtain ⟨i, -, hi⟩ := List.mem_filterMap.mp h1
  exact List.mem_of_getElem? hi
set_option maxHeartbeats 4000000 in
set_option maxRecDepth 100000 in
/-- what the law's start gives: numbers of classes, rows' classes, the two static rows -/
theorem law_setup {s : State} {b : Nat} {n : Nat} {xs : Nat → Int32} (hXs : va_X b n xs s s.heap) (hbl : b < s.heap.size) (hts : ∀ w ∈ lw_tbl, w.before #[Value.ref b] s = true) (hgv : (Jvm.Cond.and given_1 narrow_1).before #[Value.ref b] s = true) : ∃ G : GL, G.2.2.1 = (fun q => s.heap.size ≤ q) ∧ G.2.2.2.2.2 = (b, n, xs) ∧ Tb G s s.heap ∧ AOs s := by
  have hs := flat_of_before _ hgv
  have ellt0 := va_eqt (hs (Cond.eq (Term.elem (Term.static "TimeWishes" "LEAF_LETTERS" "[C") (Term.int 0)) (Term.int 48)) (by decide +kernel))
  have ellt1 := va_eqt (hs (Cond.eq (Term.elem (Term.static "TimeWishes" "LEAF_LETTERS" "[C") (Term.int 1)) (Term.int 49)) (by decide +kernel))
  have ellt2 := va_eqt (hs (Cond.eq (Term.elem (Term.static "TimeWishes" "LEAF_LETTERS" "[C") (Term.int 2)) (Term.int 62)) (by decide +kernel))
  have ellt3 := va_eqt (hs (Cond.eq (Term.elem (Term.static "TimeWishes" "LEAF_LETTERS" "[C") (Term.int 3)) (Term.int 46)) (by decide +kernel))
  have ellt4 := va_eqt (hs (Cond.eq (Term.elem (Term.static "TimeWishes" "LEAF_LETTERS" "[C") (Term.int 4)) (Term.int 97)) (by decide +kernel))
  have ellt5 := va_eqt (hs (Cond.eq (Term.elem (Term.static "TimeWishes" "LEAF_LETTERS" "[C") (Term.int 5)) (Term.int 98)) (by decide +kernel))
  have ellt6 := va_eqt (hs (Cond.eq (Term.elem (Term.static "TimeWishes" "LEAF_LETTERS" "[C") (Term.int 6)) (Term.int 99)) (by decide +kernel))
  have ellt7 := va_eqt (hs (Cond.eq (Term.elem (Term.static "TimeWishes" "LEAF_LETTERS" "[C") (Term.int 7)) (Term.int 100)) (by decide +kernel))
  have ellt8 := va_eqt (hs (Cond.eq (Term.elem (Term.static "TimeWishes" "LEAF_LETTERS" "[C") (Term.int 8)) (Term.int 101)) (by decide +kernel))
  have ellt9 := va_eqt (hs (Cond.eq (Term.elem (Term.static "TimeWishes" "LEAF_LETTERS" "[C") (Term.int 9)) (Term.int 102)) (by decide +kernel))
  have ellt10 := va_eqt (hs (Cond.eq (Term.elem (Term.static "TimeWishes" "LEAF_LETTERS" "[C") (Term.int 10)) (Term.int 97)) (by decide +kernel))
  have ellt11 := va_eqt (hs (Cond.eq (Term.elem (Term.static "TimeWishes" "LEAF_LETTERS" "[C") (Term.int 11)) (Term.int 98)) (by decide +kernel))
  have ellt12 := va_eqt (hs (Cond.eq (Term.elem (Term.static "TimeWishes" "LEAF_LETTERS" "[C") (Term.int 12)) (Term.int 99)) (by decide +kernel))
  have ellt13 := va_eqt (hs (Cond.eq (Term.elem (Term.static "TimeWishes" "LEAF_LETTERS" "[C") (Term.int 13)) (Term.int 100)) (by decide +kernel))
  have ellt14 := va_eqt (hs (Cond.eq (Term.elem (Term.static "TimeWishes" "LEAF_LETTERS" "[C") (Term.int 14)) (Term.int 101)) (by decide +kernel))
  have ellt15 := va_eqt (hs (Cond.eq (Term.elem (Term.static "TimeWishes" "LEAF_LETTERS" "[C") (Term.int 15)) (Term.int 102)) (by decide +kernel))
  obtain ⟨tllt, htllt, hTllt⟩ := va_Tof (N := 16) (f := fun j => .int (llt j)) (A := fun q => s.heap.size ≤ q) (by decide) (hs (Cond.arrayOf (Term.static "TimeWishes" "LEAF_LETTERS" "[C") .char) (by decide +kernel)) (va_eqt (hs (Cond.eq (Term.length (Term.static "TimeWishes" "LEAF_LETTERS" "[C")) (Term.int 16)) (by decide +kernel))) (fun j hj => by
    match j, hj with
    | 0, _ => exact ellt0
    | 1, _ => exact ellt1
    | 2, _ => exact ellt2
    | 3, _ => exact ellt3
    | 4, _ => exact ellt4
    | 5, _ => exact ellt5
    | 6, _ => exact ellt6
    | 7, _ => exact ellt7
    | 8, _ => exact ellt8
    | 9, _ => exact ellt9
    | 10, _ => exact ellt10
    | 11, _ => exact ellt11
    | 12, _ => exact ellt12
    | 13, _ => exact ellt13
    | 14, _ => exact ellt14
    | 15, _ => exact ellt15
    | j + 16, hj => exact absurd hj (by omega)) (fun a h => Nat.not_le.mpr h)
  have hZllt := va_Zof (A := fun q => s.heap.size ≤ q) (hts (Cond.laysStatic "TimeWishes" "LEAF_LETTERS" "[C") (List.mem_of_getElem? (i := 75) (by decide +kernel))) (hts (Cond.initialized "TimeWishes") (List.mem_of_getElem? (i := 52) (by decide +kernel))) htllt (fun a h => Nat.not_le.mpr h)
  have esepf0 := va_eqt (hs (Cond.eq (Term.elem (Term.static "TimeWishes" "SEPARATORS" "[C") (Term.int 0)) (Term.int 32)) (by decide +kernel))
  have esepf1 := va_eqt (hs (Cond.eq (Term.elem (Term.static "TimeWishes" "SEPARATORS" "[C") (Term.int 1)) (Term.int 32)) (by decide +kernel))
  have esepf2 := va_eqt (hs (Cond.eq (Term.elem (Term.static "TimeWishes" "SEPARATORS" "[C") (Term.int 2)) (Term.int 32)) (by decide +kernel))
  have esepf3 := va_eqt (hs (Cond.eq (Term.elem (Term.static "TimeWishes" "SEPARATORS" "[C") (Term.int 3)) (Term.int 32)) (by decide +kernel))
  have esepf4 := va_eqt (hs (Cond.eq (Term.elem (Term.static "TimeWishes" "SEPARATORS" "[C") (Term.int 4)) (Term.int 32)) (by decide +kernel))
  have esepf5 := va_eqt (hs (Cond.eq (Term.elem (Term.static "TimeWishes" "SEPARATORS" "[C") (Term.int 5)) (Term.int 32)) (by decide +kernel))
  have esepf6 := va_eqt (hs (Cond.eq (Term.elem (Term.static "TimeWishes" "SEPARATORS" "[C") (Term.int 6)) (Term.int 32)) (by decide +kernel))
  have esepf7 := va_eqt (hs (Cond.eq (Term.elem (Term.static "TimeWishes" "SEPARATORS" "[C") (Term.int 7)) (Term.int 32)) (by decide +kernel))
  have esepf8 := va_eqt (hs (Cond.eq (Term.elem (Term.static "TimeWishes" "SEPARATORS" "[C") (Term.int 8)) (Term.int 32)) (by decide +kernel))
  have esepf9 := va_eqt (hs (Cond.eq (Term.elem (Term.static "TimeWishes" "SEPARATORS" "[C") (Term.int 9)) (Term.int 32)) (by decide +kernel))
  have esepf10 := va_eqt (hs (Cond.eq (Term.elem (Term.static "TimeWishes" "SEPARATORS" "[C") (Term.int 10)) (Term.int 32)) (by decide +kernel))
  have esepf11 := va_eqt (hs (Cond.eq (Term.elem (Term.static "TimeWishes" "SEPARATORS" "[C") (Term.int 11)) (Term.int 32)) (by decide +kernel))
  have esepf12 := va_eqt (hs (Cond.eq (Term.elem (Term.static "TimeWishes" "SEPARATORS" "[C") (Term.int 12)) (Term.int 32)) (by decide +kernel))
  have esepf13 := va_eqt (hs (Cond.eq (Term.elem (Term.static "TimeWishes" "SEPARATORS" "[C") (Term.int 13)) (Term.int 32)) (by decide +kernel))
  have esepf14 := va_eqt (hs (Cond.eq (Term.elem (Term.static "TimeWishes" "SEPARATORS" "[C") (Term.int 14)) (Term.int 32)) (by decide +kernel))
  have esepf15 := va_eqt (hs (Cond.eq (Term.elem (Term.static "TimeWishes" "SEPARATORS" "[C") (Term.int 15)) (Term.int 32)) (by decide +kernel))
  have esepf16 := va_eqt (hs (Cond.eq (Term.elem (Term.static "TimeWishes" "SEPARATORS" "[C") (Term.int 16)) (Term.int 32)) (by decide +kernel))
  have esepf17 := va_eqt (hs (Cond.eq (Term.elem (Term.static "TimeWishes" "SEPARATORS" "[C") (Term.int 17)) (Term.int 32)) (by decide +kernel))
  have esepf18 := va_eqt (hs (Cond.eq (Term.elem (Term.static "TimeWishes" "SEPARATORS" "[C") (Term.int 18)) (Term.int 85)) (by decide +kernel))
  have esepf19 := va_eqt (hs (Cond.eq (Term.elem (Term.static "TimeWishes" "SEPARATORS" "[C") (Term.int 19)) (Term.int 82)) (by decide +kernel))
  have esepf20 := va_eqt (hs (Cond.eq (Term.elem (Term.static "TimeWishes" "SEPARATORS" "[C") (Term.int 20)) (Term.int 38)) (by decide +kernel))
  have esepf21 := va_eqt (hs (Cond.eq (Term.elem (Term.static "TimeWishes" "SEPARATORS" "[C") (Term.int 21)) (Term.int 124)) (by decide +kernel))
  obtain ⟨tsepf, htsepf, hTsepf⟩ := va_Tof (N := 22) (f := fun j => .int (sepf j)) (A := fun q => s.heap.size ≤ q) (by decide) (hs (Cond.arrayOf (Term.static "TimeWishes" "SEPARATORS" "[C") .char) (by decide +kernel)) (va_eqt (hs (Cond.eq (Term.length (Term.static "TimeWishes" "SEPARATORS" "[C")) (Term.int 22)) (by decide +kernel))) (fun j hj => by
    match j, hj with
    | 0, _ => exact esepf0
    | 1, _ => exact esepf1
    | 2, _ => exact esepf2
    | 3, _ => exact esepf3
    | 4, _ => exact esepf4
    | 5, _ => exact esepf5
    | 6, _ => exact esepf6
    | 7, _ => exact esepf7
    | 8, _ => exact esepf8
    | 9, _ => exact esepf9
    | 10, _ => exact esepf10
    | 11, _ => exact esepf11
    | 12, _ => exact esepf12
    | 13, _ => exact esepf13
    | 14, _ => exact esepf14
    | 15, _ => exact esepf15
    | 16, _ => exact esepf16
    | 17, _ => exact esepf17
    | 18, _ => exact esepf18
    | 19, _ => exact esepf19
    | 20, _ => exact esepf20
    | 21, _ => exact esepf21
    | j + 22, hj => exact absurd hj (by omega)) (fun a h => Nat.not_le.mpr h)
  have hZsepf := va_Zof (A := fun q => s.heap.size ≤ q) (hts (Cond.laysStatic "TimeWishes" "SEPARATORS" "[C") (List.mem_of_getElem? (i := 397) (by decide +kernel))) (hts (Cond.initialized "TimeWishes") (List.mem_of_getElem? (i := 52) (by decide +kernel))) htsepf (fun a h => Nat.not_le.mpr h)
  obtain ⟨c0, i0, hK0⟩ := u_known (C := RX0) (T := TX0) (N := 7) hts (fun w hw => BIG_tbl (inb_X0 w hw)) (hts (Cond.instantiable RX0 7) (List.mem_of_getElem? (i := 131) (by decide +kernel)))
  obtain ⟨c1, i1, hK1⟩ := u_known (C := RX1) (T := TX1) (N := 13) hts (fun w hw => BIG_tbl (inb_X1 w hw)) (hts (Cond.instantiable RX1 13) (List.mem_of_getElem? (i := 69) (by decide +kernel)))
  obtain ⟨c2, i2, hK2⟩ := u_known (C := RX2) (T := TX2) (N := 8) hts (fun w hw => BIG_tbl (inb_X2 w hw)) (hts (Cond.instantiable RX2 8) (List.mem_of_getElem? (i := 188) (by decide +kernel)))
  obtain ⟨c3, i3, hK3⟩ := u_known (C := RX3) (T := TX3) (N := 7) hts (fun w hw => BIG_tbl (inb_X3 w hw)) (hts (Cond.instantiable RX3 7) (List.mem_of_getElem? (i := 159) (by decide +kernel)))
  obtain ⟨c4, i4, hK4⟩ := u_known (C := RX4) (T := TX4) (N := 5) hts (fun w hw => BIG_tbl (inb_X4 w hw)) (hts (Cond.instantiable RX4 5) (List.mem_of_getElem? (i := 221) (by decide +kernel)))
  obtain ⟨c5, i5, hK5⟩ := u_known (C := RX5) (T := TX5) (N := 8) hts (fun w hw => BIG_tbl (inb_X5 w hw)) (hts (Cond.instantiable RX5 8) (List.mem_of_getElem? (i := 228) (by decide +kernel)))
  obtain ⟨c6, i6, hK6⟩ := u_known (C := RX6) (T := TX6) (N := 12) hts (fun w hw => BIG_tbl (inb_X6 w hw)) (hts (Cond.instantiable RX6 12) (List.mem_of_getElem? (i := 61) (by decide +kernel)))
  obtain ⟨a0, k0, p0, hf0, hk0, hd0⟩ := Cond.arrayClass_spec (hts (Cond.arrayClass .int) (List.mem_of_getElem? (i := 127) (by decide +kernel)))
  obtain ⟨a1, k1, p1, hf1, hk1, hd1⟩ := Cond.arrayClass_spec (hts (Cond.arrayClass .boolean) (List.mem_of_getElem? (i := 128) (by decide +kernel)))
  obtain ⟨a2, k2, p2, hf2, hk2, hd2⟩ := Cond.arrayClass_spec (hts (Cond.arrayClass .char) (List.mem_of_getElem? (i := 129) (by decide +kernel)))
  have ho0 := hts (Cond.arrayOver (.object RX4)) (List.mem_of_getElem? (i := 220) (by decide +kernel))
  obtain ⟨p3, a3, k3, hg3, -, hk3, hd3, hf3⟩ := Cond.arrayOver_spec ho0
  have ho1 := hts (Cond.arrayOver (.object RX5)) (List.mem_of_getElem? (i := 227) (by decide +kernel))
  obtain ⟨p4, a4, k4, hg4, -, hk4, hd4, hf4⟩ := Cond.arrayOver_spec ho1
  refine ⟨((fun k => ([c0, c1, c2, c3, c4, c5, c6] : List ClassId).getD k c0, fun k => ([i0, i1, i2, i3, i4, i5, i6] : List (Nat → Nat)).getD k i0), fun k => ([a0, a1, a2, a3, a4] : List ClassId).getD k a0, fun q => s.heap.size ≤ q, tllt, tsepf, b, n, xs), rfl, rfl, ⟨⟨?_, ?_⟩, ⟨fun q hq => va_Nw.of rfl (hts _ (NW_in1 q hq)), fun q hq => va_Nw.of rfl (hts _ (NW_in2 q hq))⟩, ⟨hZllt, hTllt, hXs, Nat.not_le.mpr hbl⟩, hZsepf, hTsepf⟩, va_AO.of (A := #[Value.ref b]) ?_, va_AO.of (A := #[Value.ref b]) ?_⟩
  · intro k q hq
    match k, hq with
    | 0, hq => cases hq; exact hK0
    | 1, hq => cases hq; exact hK1
    | 2, hq => cases hq; exact hK2
    | 3, hq => cases hq; exact hK3
    | 4, hq => cases hq; exact hK4
    | 5, hq => cases hq; exact hK5
    | 6, hq => cases hq; exact hK6
    | k + 7, hq => simp [vwCl] at hq
  · intro k q hq
    match k, hq with
    | 0, hq => cases hq; exact ⟨fun n z => ⟨fun k h => (by cases h), k0, hk0, p0, hd0⟩, hf0⟩
    | 1, hq => cases hq; exact ⟨fun n z => ⟨fun k h => (by cases h), k1, hk1, p1, hd1⟩, hf1⟩
    | 2, hq => cases hq; exact ⟨fun n z => ⟨fun k h => (by cases h), k2, hk2, p2, hd2⟩, hf2⟩
    | 3, hq => cases hq; exact ⟨fun n z => ⟨fun k h => (by cases h), k3, hk3, p3, hd3⟩, k3, p3, hk3, hd3, hg3, hf3⟩
    | 4, hq => cases hq; exact ⟨fun n z => ⟨fun k h => (by cases h), k4, hk4, p4, hd4⟩, k4, p4, hk4, hd4, hg4, hf4⟩
    | k + 5, hq => simp [tyl] at hq
  · exact ho0
  · exact ho1
/-! the memories when both objects have been made -/
def MC0 : Mem := fun c => if c = 0 then (fun j => if j = 8 then 56 else if j = 9 then 83 else 0) else if c = 1 then (fun j => if j = 11 then 16 else 0) else if c = 2 then cnt gk_kind 16 else if c = 5 then cnt gk_one 16 else if c = 6 then cnt gk_signs 16 else if c = 7 then cnt gk_true 16 else if c = 8 then cnt gk_first 16 else if c = 28 then (fun j => if j = 0 then 110 else if j = 1 then 137 else if j = 2 then 164 else if j = 3 then 191 else 0) else fun _ => 0
def MM0 : Mem := fun _ _ => 0
/-- one entry is as good as another -/
def simE (D : va_G) (q q' : Nat × va_E) : Prop := ∀ H, va_at D vwCl q H → va_at D vwCl q' H
def simW (D : va_G) : va_W → va_W → Prop
  | [], [] => True
  | q :: a, q' :: b => (q.1 = q'.1 ∧ simE D q q') ∧ simW D a b
  | _, _ => False
theorem simW_app {D : va_G} : ∀ {a b c d : va_W}, simW D a b → simW D c d → simW D (a ++ c) (b ++ d)
  | [], [], _, _, _, h => h
  | _ :: a, _ :: b, _, _, h1, h2 => ⟨h1.1, simW_app (a := a) (b := b) h1.2 h2⟩
  | [], _ :: _, _, _, h, _ => h.elim
  | _ :: _, [], _, _, h, _ => h.elim
theorem simW_at {D : va_G} : ∀ {a b : va_W}, simW D a b → ∀ (k : Nat) (q' : Nat × va_E), b[k]? = some q' → ∃ q, a[k]? = some q ∧ q.1 = q'.1 ∧ simE D q q'
  | [], [], _, k, q', h => by simp at h
  | q :: a, q2 :: b, h1, 0, q', h => by
    rw [List.getElem?_cons_zero] at h
    cases h
    exact ⟨q, rfl, h1.1.1, h1.1.2⟩
  | q :: a, q2 :: b, h1, k + 1, q', h => by
    rw [List.getElem?_cons_succ] at h
    obtain ⟨q3, e1, e2, e3⟩ := simW_at (a := a) (b := b) h1.2 k q' h
    exact ⟨q3, by rw [List.getElem?_cons_succ]; exact e1, e2, e3⟩
  | [], _ :: _, h1, _, _, _ => h1.elim
  | _ :: _, [], h1, _, _, _ => h1.elim
theorem simW_P {D : va_G} {a b : va_W} {H : Heap} (h : simW D a b) (hP : va_P D vwCl a H) : va_P D vwCl b H := by
  intro k q' hk
  obtain ⟨q, h1, h2, h3⟩ := simW_at h k q' hk
  exact h3 H (hP k q h1)
theorem simW_D {D : va_G} {A : Nat → Prop} {a b : va_W} (h : simW D a b) (hD : va_D A a) : va_D A b := by
  refine ⟨fun i j p q hi hj hpq => ?_, fun k q' hk => ?_⟩
  · obtain ⟨p1, g1, g2, -⟩ := simW_at h i p hi
    obtain ⟨q1, g3, g4, -⟩ := simW_at h j q hj
    exact hD.1 i j p1 q1 g1 g3 (by rw [g2, g4]; exact hpq)
  · obtain ⟨q, h1, h2, -⟩ := simW_at h k q' hk
    rw [← h2]
    exact hD.2 k q h1
theorem sim_eq {D : va_G} {q q' : Nat × va_E} (h : q = q') : q.1 = q'.1 ∧ simE D q q' := by subst h; exact ⟨rfl, fun _ h => h⟩
theorem sim_q {D : va_G} {a n : Nat} {cA : ClassId} {f g : Nat → Option Nat} (h : ∀ j, j < n → f j = g j) : simE D (a, .inl (cA, n, .inr (.inr (.inr (.inr f))))) (a, .inl (cA, n, .inr (.inr (.inr (.inr g))))) := by
  intro H hP
  have e : vp_cell cA (n, .inr (.inr (.inr (.inr f)))) = vp_cell cA (n, .inr (.inr (.inr (.inr g)))) := by
    rw [vp_cell_q, vp_cell_q]
    unfold arrV
    congr 2
    funext j
    show va_rf (f j) = va_rf (g j)
    rw [h j.1 j.2]
  show H[a]? = some (vp_cell _ _)
  rw [← e]
  exact hP
def sgm (ad : Nat → Nat) (E : Nat → va_E) (s n : Nat) : va_W := (List.range' s n).map (fun c => (ad c, E c))
theorem wl_sgm (ad : Nat → Nat) (E : Nat → va_E) : wl ad E = sgm ad E 0 218 := by
  unfold wl sgm NC
  rw [List.range_eq_range']
theorem sgm_app (ad : Nat → Nat) (E : Nat → va_E) (s n k : Nat) : sgm ad E s (n + k) = sgm ad E s n ++ sgm ad E (s + n) k := by
  unfold sgm
  rw [← List.map_append, List.range'_append_1]
def adF (h0 q13 q14 q15 : Nat) (b3 b6 b9 b12 b18 b21 b24 b27 b30 b33 b36 : Nat → Nat) : Nat → Nat := fun c => ([h0, b3 0, b3 1, b3 2, b3 3, b3 4, b3 5, b3 6, b3 7, b3 8, b3 9, b3 10, b3 11, b6 0, b6 1, b6 2, b6 3, b9 0, b9 1, b9 2, b9 3, b9 4, b12 0, b12 1, b12 2, b12 3, q13, q14, q15, b18 0, b18 1, b18 2, b18 3, b18 4, b18 5, b18 6, b18 7, b18 8, b18 9, b18 10, b18 11, b18 12, b18 13, b18 14, b18 15, b18 16, b18 17, b18 18, b18 19, b18 20, b18 21, b18 22, b18 23, b18 24, b18 25, b18 26, b21 0, b21 1, b21 2, b21 3, b21 4, b21 5, b21 6, b21 7, b21 8, b21 9, b21 10, b21 11, b21 12, b21 13, b21 14, b21 15, b21 16, b21 17, b21 18, b21 19, b21 20, b21 21, b21 22, b21 23, b21 24, b21 25, b21 26, b24 0, b24 1, b24 2, b24 3, b24 4, b24 5, b24 6, b24 7, b24 8, b24 9, b24 10, b24 11, b24 12, b24 13, b24 14, b24 15, b24 16, b24 17, b24 18, b24 19, b24 20, b24 21, b24 22, b24 23, b24 24, b24 25, b24 26, b27 0, b27 1, b27 2, b27 3, b27 4, b27 5, b27 6, b27 7, b27 8, b27 9, b27 10, b27 11, b27 12, b27 13, b27 14, b27 15, b27 16, b27 17, b27 18, b27 19, b27 20, b27 21, b27 22, b27 23, b27 24, b27 25, b27 26, b30 0, b30 1, b30 2, b30 3, b30 4, b30 5, b30 6, b30 7, b30 8, b30 9, b30 10, b30 11, b30 12, b30 13, b30 14, b30 15, b30 16, b30 17, b30 18, b30 19, b30 20, b30 21, b30 22, b30 23, b30 24, b30 25, b30 26, b33 0, b33 1, b33 2, b33 3, b33 4, b33 5, b33 6, b33 7, b33 8, b33 9, b33 10, b33 11, b33 12, b33 13, b33 14, b33 15, b33 16, b33 17, b33 18, b33 19, b33 20, b33 21, b33 22, b33 23, b33 24, b33 25, b33 26, b36 0, b36 1, b36 2, b36 3, b36 4, b36 5, b36 6, b36 7, b36 8, b36 9, b36 10, b36 11, b36 12, b36 13, b36 14, b36 15, b36 16, b36 17, b36 18, b36 19, b36 20, b36 21, b36 22, b36 23, b36 24, b36 25, b36 26] : List Nat).getD c 0
set_option maxHeartbeats 4000000 in
set_option maxRecDepth 100000 in
theorem sg_x {D : va_G} (G : GL) (h0 q13 q14 q15 : Nat) (b3 b6 b9 b12 b18 b21 b24 b27 b30 b33 b36 : Nat → Nat) : simW D ([(h0, .inr (6, [.ref (b3 0), .ref (b6 0), .ref (b9 0), .ref (b12 0), .ref q13, .ref q14, .ref q15, .ref (b18 0), .ref (b21 0), .ref (b24 0), .int 0, .int 0]))]) (sgm (adF h0 q13 q14 q15 b3 b6 b9 b12 b18 b21 b24 b27 b30 b33 b36) (EE (adF h0 q13 q14 q15 b3 b6 b9 b12 b18 b21 b24 b27 b30 b33 b36) G.2.1 MC0 MM0) 0 1) := ⟨sim_eq rfl, trivial⟩
set_option maxHeartbeats 4000000 in
set_option maxRecDepth 100000 in
theorem sg_f {D : va_G} (G : GL) (h0 q13 q14 q15 : Nat) (b3 b6 b9 b12 b18 b21 b24 b27 b30 b33 b36 : Nat → Nat) : simW D (foL G b3) (sgm (adF h0 q13 q14 q15 b3 b6 b9 b12 b18 b21 b24 b27 b30 b33 b36) (EE (adF h0 q13 q14 q15 b3 b6 b9 b12 b18 b21 b24 b27 b30 b33 b36) G.2.1 MC0 MM0) 1 12) := ⟨sim_eq rfl, ⟨sim_eq rfl, ⟨sim_eq rfl, ⟨sim_eq rfl, ⟨sim_eq rfl, ⟨sim_eq rfl, ⟨sim_eq rfl, ⟨sim_eq rfl, ⟨sim_eq rfl, ⟨sim_eq rfl, ⟨sim_eq rfl, ⟨sim_eq rfl, trivial⟩⟩⟩⟩⟩⟩⟩⟩⟩⟩⟩⟩
set_option maxHeartbeats 4000000 in
set_option maxRecDepth 100000 in
theorem sg_c {D : va_G} (G : GL) (h0 q13 q14 q15 : Nat) (b3 b6 b9 b12 b18 b21 b24 b27 b30 b33 b36 : Nat → Nat) : simW D (chL G b6 (b3 0)) (sgm (adF h0 q13 q14 q15 b3 b6 b9 b12 b18 b21 b24 b27 b30 b33 b36) (EE (adF h0 q13 q14 q15 b3 b6 b9 b12 b18 b21 b24 b27 b30 b33 b36) G.2.1 MC0 MM0) 13 4) := ⟨sim_eq rfl, ⟨sim_eq rfl, ⟨sim_eq rfl, ⟨sim_eq rfl, trivial⟩⟩⟩⟩
set_option maxHeartbeats 4000000 in
set_option maxRecDepth 100000 in
theorem sg_s {D : va_G} (G : GL) (h0 q13 q14 q15 : Nat) (b3 b6 b9 b12 b18 b21 b24 b27 b30 b33 b36 : Nat → Nat) : simW D (scL G b9 (b3 0)) (sgm (adF h0 q13 q14 q15 b3 b6 b9 b12 b18 b21 b24 b27 b30 b33 b36) (EE (adF h0 q13 q14 q15 b3 b6 b9 b12 b18 b21 b24 b27 b30 b33 b36) G.2.1 MC0 MM0) 17 5) := ⟨sim_eq rfl, ⟨sim_eq rfl, ⟨sim_eq rfl, ⟨sim_eq rfl, ⟨sim_eq rfl, trivial⟩⟩⟩⟩⟩
set_option maxHeartbeats 4000000 in
set_option maxRecDepth 100000 in
theorem sg_r {D : va_G} (G : GL) (h0 q13 q14 q15 : Nat) (b3 b6 b9 b12 b18 b21 b24 b27 b30 b33 b36 : Nat → Nat) : simW D (reL G b12 (b3 0) (b6 0)) (sgm (adF h0 q13 q14 q15 b3 b6 b9 b12 b18 b21 b24 b27 b30 b33 b36) (EE (adF h0 q13 q14 q15 b3 b6 b9 b12 b18 b21 b24 b27 b30 b33 b36) G.2.1 MC0 MM0) 22 4) := ⟨sim_eq rfl, ⟨sim_eq rfl, ⟨sim_eq rfl, ⟨sim_eq rfl, trivial⟩⟩⟩⟩
set_option maxHeartbeats 4000000 in
set_option maxRecDepth 100000 in
theorem sg_o {D : va_G} (G : GL) (h0 q13 q14 q15 : Nat) (b3 b6 b9 b12 b18 b21 b24 b27 b30 b33 b36 : Nat → Nat) : simW D ([(q13, .inl (G.2.1 0, 64, .inl (fun _ => 0))), (q14, .inl (G.2.1 0, 64, .inl (fun _ => 0))), (q15, .inl (G.2.1 3, 4, .inr (.inr (.inr (.inr (va_up (va_up (va_up (va_up (fun _ => none) 0 (some (b27 0))) 1 (some (b30 0))) 2 (some (b33 0))) 3 (some (b36 0))))))))]) (sgm (adF h0 q13 q14 q15 b3 b6 b9 b12 b18 b21 b24 b27 b30 b33 b36) (EE (adF h0 q13 q14 q15 b3 b6 b9 b12 b18 b21 b24 b27 b30 b33 b36) G.2.1 MC0 MM0) 26 3) := ⟨sim_eq rfl, ⟨sim_eq rfl, ⟨⟨rfl, sim_q (fun j hj => by match j, hj with | 0, _ => rfl | 1, _ => rfl | 2, _ => rfl | 3, _ => rfl)⟩, trivial⟩⟩⟩
set_option maxHeartbeats 4000000 in
set_option maxRecDepth 100000 in
theorem sg_st0 {D : va_G} (G : GL) (h0 q13 q14 q15 : Nat) (b3 b6 b9 b12 b18 b21 b24 b27 b30 b33 b36 : Nat → Nat) : simW D (stL G b18) (sgm (adF h0 q13 q14 q15 b3 b6 b9 b12 b18 b21 b24 b27 b30 b33 b36) (EE (adF h0 q13 q14 q15 b3 b6 b9 b12 b18 b21 b24 b27 b30 b33 b36) G.2.1 MC0 MM0) 29 27) := ⟨sim_eq rfl, ⟨sim_eq rfl, ⟨⟨rfl, sim_q (fun j hj => by match j, hj with | 0, _ => rfl | 1, _ => rfl | 2, _ => rfl | 3, _ => rfl | 4, _ => rfl | 5, _ => rfl | 6, _ => rfl | 7, _ => rfl)⟩, ⟨sim_eq rfl, ⟨sim_eq rfl, ⟨sim_eq rfl, ⟨sim_eq rfl, ⟨sim_eq rfl, ⟨sim_eq rfl, ⟨sim_eq rfl, ⟨sim_eq rfl, ⟨sim_eq rfl, ⟨sim_eq rfl, ⟨sim_eq rfl, ⟨sim_eq rfl, ⟨sim_eq rfl, ⟨sim_eq rfl, ⟨sim_eq rfl, ⟨sim_eq rfl, ⟨sim_eq rfl, ⟨sim_eq rfl, ⟨sim_eq rfl, ⟨sim_eq rfl, ⟨sim_eq rfl, ⟨sim_eq rfl, ⟨sim_eq rfl, ⟨sim_eq rfl, trivial⟩⟩⟩⟩⟩⟩⟩⟩⟩⟩⟩⟩⟩⟩⟩⟩⟩⟩⟩⟩⟩⟩⟩⟩⟩⟩⟩
set_option maxHeartbeats 4000000 in
set_option maxRecDepth 100000 in
theorem sg_st1 {D : va_G} (G : GL) (h0 q13 q14 q15 : Nat) (b3 b6 b9 b12 b18 b21 b24 b27 b30 b33 b36 : Nat → Nat) : simW D (stL G b21) (sgm (adF h0 q13 q14 q15 b3 b6 b9 b12 b18 b21 b24 b27 b30 b33 b36) (EE (adF h0 q13 q14 q15 b3 b6 b9 b12 b18 b21 b24 b27 b30 b33 b36) G.2.1 MC0 MM0) 56 27) := ⟨sim_eq rfl, ⟨sim_eq rfl, ⟨⟨rfl, sim_q (fun j hj => by match j, hj with | 0, _ => rfl | 1, _ => rfl | 2, _ => rfl | 3, _ => rfl | 4, _ => rfl | 5, _ => rfl | 6, _ => rfl | 7, _ => rfl)⟩, ⟨sim_eq rfl, ⟨sim_eq rfl, ⟨sim_eq rfl, ⟨sim_eq rfl, ⟨sim_eq rfl, ⟨sim_eq rfl, ⟨sim_eq rfl, ⟨sim_eq rfl, ⟨sim_eq rfl, ⟨sim_eq rfl, ⟨sim_eq rfl, ⟨sim_eq rfl, ⟨sim_eq rfl, ⟨sim_eq rfl, ⟨sim_eq rfl, ⟨sim_eq rfl, ⟨sim_eq rfl, ⟨sim_eq rfl, ⟨sim_eq rfl, ⟨sim_eq rfl, ⟨sim_eq rfl, ⟨sim_eq rfl, ⟨sim_eq rfl, ⟨sim_eq rfl, trivial⟩⟩⟩⟩⟩⟩⟩⟩⟩⟩⟩⟩⟩⟩⟩⟩⟩⟩⟩⟩⟩⟩⟩⟩⟩⟩⟩
set_option maxHeartbeats 4000000 in
set_option maxRecDepth 100000 in
theorem sg_st2 {D : va_G} (G : GL) (h0 q13 q14 q15 : Nat) (b3 b6 b9 b12 b18 b21 b24 b27 b30 b33 b36 : Nat → Nat) : simW D (stL G b24) (sgm (adF h0 q13 q14 q15 b3 b6 b9 b12 b18 b21 b24 b27 b30 b33 b36) (EE (adF h0 q13 q14 q15 b3 b6 b9 b12 b18 b21 b24 b27 b30 b33 b36) G.2.1 MC0 MM0) 83 27) := ⟨sim_eq rfl, ⟨sim_eq rfl, ⟨⟨rfl, sim_q (fun j hj => by match j, hj with | 0, _ => rfl | 1, _ => rfl | 2, _ => rfl | 3, _ => rfl | 4, _ => rfl | 5, _ => rfl | 6, _ => rfl | 7, _ => rfl)⟩, ⟨sim_eq rfl, ⟨sim_eq rfl, ⟨sim_eq rfl, ⟨sim_eq rfl, ⟨sim_eq rfl, ⟨sim_eq rfl, ⟨sim_eq rfl, ⟨sim_eq rfl, ⟨sim_eq rfl, ⟨sim_eq rfl, ⟨sim_eq rfl, ⟨sim_eq rfl, ⟨sim_eq rfl, ⟨sim_eq rfl, ⟨sim_eq rfl, ⟨sim_eq rfl, ⟨sim_eq rfl, ⟨sim_eq rfl, ⟨sim_eq rfl, ⟨sim_eq rfl, ⟨sim_eq rfl, ⟨sim_eq rfl, ⟨sim_eq rfl, ⟨sim_eq rfl, trivial⟩⟩⟩⟩⟩⟩⟩⟩⟩⟩⟩⟩⟩⟩⟩⟩⟩⟩⟩⟩⟩⟩⟩⟩⟩⟩⟩
set_option maxHeartbeats 4000000 in
set_option maxRecDepth 100000 in
theorem sg_st3 {D : va_G} (G : GL) (h0 q13 q14 q15 : Nat) (b3 b6 b9 b12 b18 b21 b24 b27 b30 b33 b36 : Nat → Nat) : simW D (stL G b27) (sgm (adF h0 q13 q14 q15 b3 b6 b9 b12 b18 b21 b24 b27 b30 b33 b36) (EE (adF h0 q13 q14 q15 b3 b6 b9 b12 b18 b21 b24 b27 b30 b33 b36) G.2.1 MC0 MM0) 110 27) := ⟨sim_eq rfl, ⟨sim_eq rfl, ⟨⟨rfl, sim_q (fun j hj => by match j, hj with | 0, _ => rfl | 1, _ => rfl | 2, _ => rfl | 3, _ => rfl | 4, _ => rfl | 5, _ => rfl | 6, _ => rfl | 7, _ => rfl)⟩, ⟨sim_eq rfl, ⟨sim_eq rfl, ⟨sim_eq rfl, ⟨sim_eq rfl, ⟨sim_eq rfl, ⟨sim_eq rfl, ⟨sim_eq rfl, ⟨sim_eq rfl, ⟨sim_eq rfl, ⟨sim_eq rfl, ⟨sim_eq rfl, ⟨sim_eq rfl, ⟨sim_eq rfl, ⟨sim_eq rfl, ⟨sim_eq rfl, ⟨sim_eq rfl, ⟨sim_eq rfl, ⟨sim_eq rfl, ⟨sim_eq rfl, ⟨sim_eq rfl, ⟨sim_eq rfl, ⟨sim_eq rfl, ⟨sim_eq rfl, ⟨sim_eq rfl, trivial⟩⟩⟩⟩⟩⟩⟩⟩⟩⟩⟩⟩⟩⟩⟩⟩⟩⟩⟩⟩⟩⟩⟩⟩⟩⟩⟩
set_option maxHeartbeats 4000000 in
set_option maxRecDepth 100000 in
theorem sg_st4 {D : va_G} (G : GL) (h0 q13 q14 q15 : Nat) (b3 b6 b9 b12 b18 b21 b24 b27 b30 b33 b36 : Nat → Nat) : simW D (stL G b30) (sgm (adF h0 q13 q14 q15 b3 b6 b9 b12 b18 b21 b24 b27 b30 b33 b36) (EE (adF h0 q13 q14 q15 b3 b6 b9 b12 b18 b21 b24 b27 b30 b33 b36) G.2.1 MC0 MM0) 137 27) := ⟨sim_eq rfl, ⟨sim_eq rfl, ⟨⟨rfl, sim_q (fun j hj => by match j, hj with | 0, _ => rfl | 1, _ => rfl | 2, _ => rfl | 3, _ => rfl | 4, _ => rfl | 5, _ => rfl | 6, _ => rfl | 7, _ => rfl)⟩, ⟨sim_eq rfl, ⟨sim_eq rfl, ⟨sim_eq rfl, ⟨sim_eq rfl, ⟨sim_eq rfl, ⟨sim_eq rfl, ⟨sim_eq rfl, ⟨sim_eq rfl, ⟨sim_eq rfl, ⟨sim_eq rfl, ⟨sim_eq rfl, ⟨sim_eq rfl, ⟨sim_eq rfl, ⟨sim_eq rfl, ⟨sim_eq rfl, ⟨sim_eq rfl, ⟨sim_eq rfl, ⟨sim_eq rfl, ⟨sim_eq rfl, ⟨sim_eq rfl, ⟨sim_eq rfl, ⟨sim_eq rfl, ⟨sim_eq rfl, ⟨sim_eq rfl, trivial⟩⟩⟩⟩⟩⟩⟩⟩⟩⟩⟩⟩⟩⟩⟩⟩⟩⟩⟩⟩⟩⟩⟩⟩⟩⟩⟩
set_option maxHeartbeats 4000000 in
set_option maxRecDepth 100000 in
theorem sg_st5 {D : va_G} (G : GL) (h0 q13 q14 q15 : Nat) (b3 b6 b9 b12 b18 b21 b24 b27 b30 b33 b36 : Nat → Nat) : simW D (stL G b33) (sgm (adF h0 q13 q14 q15 b3 b6 b9 b12 b18 b21 b24 b27 b30 b33 b36) (EE (adF h0 q13 q14 q15 b3 b6 b9 b12 b18 b21 b24 b27 b30 b33 b36) G.2.1 MC0 MM0) 164 27) := ⟨sim_eq rfl, ⟨sim_eq rfl, ⟨⟨rfl, sim_q (fun j hj => by match j, hj with | 0, _ => rfl | 1, _ => rfl | 2, _ => rfl | 3, _ => rfl | 4, _ => rfl | 5, _ => rfl | 6, _ => rfl | 7, _ => rfl)⟩, ⟨sim_eq rfl, ⟨sim_eq rfl, ⟨sim_eq rfl, ⟨sim_eq rfl, ⟨sim_eq rfl, ⟨sim_eq rfl, ⟨sim_eq rfl, ⟨sim_eq rfl, ⟨sim_eq rfl, ⟨sim_eq rfl, ⟨sim_eq rfl, ⟨sim_eq rfl, ⟨sim_eq rfl, ⟨sim_eq rfl, ⟨sim_eq rfl, ⟨sim_eq rfl, ⟨sim_eq rfl, ⟨sim_eq rfl, ⟨sim_eq rfl, ⟨sim_eq rfl, ⟨sim_eq rfl, ⟨sim_eq rfl, ⟨sim_eq rfl, ⟨sim_eq rfl, trivial⟩⟩⟩⟩⟩⟩⟩⟩⟩⟩⟩⟩⟩⟩⟩⟩⟩⟩⟩⟩⟩⟩⟩⟩⟩⟩⟩
set_option maxHeartbeats 4000000 in
set_option maxRecDepth 100000 in
theorem sg_st6 {D : va_G} (G : GL) (h0 q13 q14 q15 : Nat) (b3 b6 b9 b12 b18 b21 b24 b27 b30 b33 b36 : Nat → Nat) : simW D (stL G b36) (sgm (adF h0 q13 q14 q15 b3 b6 b9 b12 b18 b21 b24 b27 b30 b33 b36) (EE (adF h0 q13 q14 q15 b3 b6 b9 b12 b18 b21 b24 b27 b30 b33 b36) G.2.1 MC0 MM0) 191 27) := ⟨sim_eq rfl, ⟨sim_eq rfl, ⟨⟨rfl, sim_q (fun j hj => by match j, hj with | 0, _ => rfl | 1, _ => rfl | 2, _ => rfl | 3, _ => rfl | 4, _ => rfl | 5, _ => rfl | 6, _ => rfl | 7, _ => rfl)⟩, ⟨sim_eq rfl, ⟨sim_eq rfl, ⟨sim_eq rfl, ⟨sim_eq rfl, ⟨sim_eq rfl, ⟨sim_eq rfl, ⟨sim_eq rfl, ⟨sim_eq rfl, ⟨sim_eq rfl, ⟨sim_eq rfl, ⟨sim_eq rfl, ⟨sim_eq rfl, ⟨sim_eq rfl, ⟨sim_eq rfl, ⟨sim_eq rfl, ⟨sim_eq rfl, ⟨sim_eq rfl, ⟨sim_eq rfl, ⟨sim_eq rfl, ⟨sim_eq rfl, ⟨sim_eq rfl, ⟨sim_eq rfl, ⟨sim_eq rfl, ⟨sim_eq rfl, trivial⟩⟩⟩⟩⟩⟩⟩⟩⟩⟩⟩⟩⟩⟩⟩⟩⟩⟩⟩⟩⟩⟩⟩⟩⟩⟩⟩
theorem sgm_split (ad : Nat → Nat) (E : Nat → va_E) {s n k m s2 : Nat} (h : n + k = m) (h2 : s + n = s2) : sgm ad E s m = sgm ad E s n ++ sgm ad E s2 k := by
  subst h h2
  exact sgm_app ad E s n k
theorem wl_segs (ad : Nat → Nat) (E : Nat → va_E) : wl ad E = ((((((((((((sgm ad E 0 1 ++ sgm ad E 1 12) ++ sgm ad E 13 4) ++ sgm ad E 17 5) ++ sgm ad E 22 4) ++ sgm ad E 26 3) ++ sgm ad E 29 27) ++ sgm ad E 56 27) ++ sgm ad E 83 27) ++ sgm ad E 110 27) ++ sgm ad E 137 27) ++ sgm ad E 164 27) ++ sgm ad E 191 27) := by
  rw [wl_sgm]
  rw [sgm_split ad E (s := 0) (n := 191) (k := 27) (m := 218) (s2 := 191) rfl rfl]
  rw [sgm_split ad E (s := 0) (n := 164) (k := 27) (m := 191) (s2 := 164) rfl rfl]
  rw [sgm_split ad E (s := 0) (n := 137) (k := 27) (m := 164) (s2 := 137) rfl rfl]
  rw [sgm_split ad E (s := 0) (n := 110) (k := 27) (m := 137) (s2 := 110) rfl rfl]
  rw [sgm_split ad E (s := 0) (n := 83) (k := 27) (m := 110) (s2 := 83) rfl rfl]
  rw [sgm_split ad E (s := 0) (n := 56) (k := 27) (m := 83) (s2 := 56) rfl rfl]
  rw [sgm_split ad E (s := 0) (n := 29) (k := 27) (m := 56) (s2 := 29) rfl rfl]
  rw [sgm_split ad E (s := 0) (n := 26) (k := 3) (m := 29) (s2 := 26) rfl rfl]
  rw [sgm_split ad E (s := 0) (n := 22) (k := 4) (m := 26) (s2 := 22) rfl rfl]
  rw [sgm_split ad E (s := 0) (n := 17) (k := 5) (m := 22) (s2 := 17) rfl rfl]
  rw [sgm_split ad E (s := 0) (n := 13) (k := 4) (m := 17) (s2 := 13) rfl rfl]
  rw [sgm_split ad E (s := 0) (n := 1) (k := 12) (m := 13) (s2 := 1) rfl rfl]
theorem world0 {D : va_G} (G : GL) (h0 q13 q14 q15 : Nat) (b3 b6 b9 b12 b18 b21 b24 b27 b30 b33 b36 : Nat → Nat) : simW D (twL G h0 q13 q14 q15 b3 b6 b9 b12 b18 b21 b24 b27 b30 b33 b36) (wl (adF h0 q13 q14 q15 b3 b6 b9 b12 b18 b21 b24 b27 b30 b33 b36) (EE (adF h0 q13 q14 q15 b3 b6 b9 b12 b18 b21 b24 b27 b30 b33 b36) G.2.1 MC0 MM0)) := by
  rw [wl_segs]
  unfold twL
  exact (simW_app (simW_app (simW_app (simW_app (simW_app (simW_app (simW_app (simW_app (simW_app (simW_app (simW_app (simW_app (sg_x G h0 q13 q14 q15 b3 b6 b9 b12 b18 b21 b24 b27 b30 b33 b36) (sg_f G h0 q13 q14 q15 b3 b6 b9 b12 b18 b21 b24 b27 b30 b33 b36)) (sg_c G h0 q13 q14 q15 b3 b6 b9 b12 b18 b21 b24 b27 b30 b33 b36)) (sg_s G h0 q13 q14 q15 b3 b6 b9 b12 b18 b21 b24 b27 b30 b33 b36)) (sg_r G h0 q13 q14 q15 b3 b6 b9 b12 b18 b21 b24 b27 b30 b33 b36)) (sg_o G h0 q13 q14 q15 b3 b6 b9 b12 b18 b21 b24 b27 b30 b33 b36)) (sg_st0 G h0 q13 q14 q15 b3 b6 b9 b12 b18 b21 b24 b27 b30 b33 b36)) (sg_st1 G h0 q13 q14 q15 b3 b6 b9 b12 b18 b21 b24 b27 b30 b33 b36)) (sg_st2 G h0 q13 q14 q15 b3 b6 b9 b12 b18 b21 b24 b27 b30 b33 b36)) (sg_st3 G h0 q13 q14 q15 b3 b6 b9 b12 b18 b21 b24 b27 b30 b33 b36)) (sg_st4 G h0 q13 q14 q15 b3 b6 b9 b12 b18 b21 b24 b27 b30 b33 b36)) (sg_st5 G h0 q13 q14 q15 b3 b6 b9 b12 b18 b21 b24 b27 b30 b33 b36)) (sg_st6 G h0 q13 q14 q15 b3 b6 b9 b12 b18 b21 b24 b27 b30 b33 b36))
