/-! the model: a part of a wish, loaded -/
def UBM (U : List T) : Prop := U.length ≤ 7900 ∧ (U.map nkid).sum ≤ 80000
theorem UBM_cap {U tb : List T} {t : T} (hU : UBM U) (hn : tb.Nodup) (hs : ∀ x ∈ tb, x ∈ U) (ht : t ∈ U) (hnew : t ∉ tb) : tb.length < 7900 ∧ lsum tb tb.length + nkid t ≤ 80000 := by
  have hn2 : (t :: tb).Nodup := List.nodup_cons.mpr ⟨hnew, hn⟩
  have hs2 : ∀ x ∈ t :: tb, x ∈ U := fun x hx => by
    rcases List.mem_cons.mp hx with rfl | hx
    · exact ht
    · exact hs x hx
  have h1 := nodup_len hn2 hs2
  have h2 := nodup_sum nkid hn2 hs2
  have h3 := lsum_le tb
  rw [stof_all] at h3
  simp only [List.length_cons, List.map_cons, List.sum_cons] at h1 h2
  have := hU.1
  have := hU.2
  omega
theorem subl_UBM {t : T} (h : size t ≤ 120) : UBM (subl t) := ⟨by rw [subl_len]; omega, by have := subl_nkid t; omega⟩
theorem empty_13 : ∀ (n k : Nat) (M : Mem), k ≤ 16 → 16 - k < n → (∀ i, i < k → M 222 i = nI 0 ∧ M 225 i = nI 1 ∧ M 226 i = nI (if i < 10 then 1 else 2)) → ∃ M', f_X7_empty_13 n (nI k) M = some (nI 0, M') ∧ (∀ i, i < 16 → M' 222 i = nI 0 ∧ M' 225 i = nI 1 ∧ M' 226 i = nI (if i < 10 then 1 else 2)) ∧ ∀ c, c ≠ 222 → c ≠ 225 → c ≠ 226 → M' c = M c := by
  intro n
  induction n with
  | zero => intro k M _ h; omega
  | succ n ih =>
    intro k M h1 h2 h3
    rw [f_X7_empty_13]
    unfold f_X7_empty_49
    by_cases hk : k < 16
    · have fin : ∀ v : Nat, v = (if k < 10 then 1 else 2) → ∃ M', ((mst (mwr (mwr M 222 k (nI 0)) 225 k (nI 1)) 226 8000 (nI k) (nI v)).bind fun M1 => f_X7_empty_13 n (nI k + nI 1) M1) = some (nI 0, M') ∧ (∀ i, i < 16 → M' 222 i = nI 0 ∧ M' 225 i = nI 1 ∧ M' 226 i = nI (if i < 10 then 1 else 2)) ∧ ∀ c, c ≠ 222 → c ≠ 225 → c ≠ 226 → M' c = M c := fun v hv => by
        rw [mst_n (by omega) (by omega), Option.bind_some, nI_add]
        obtain ⟨M', e, f, o⟩ := ih (k + 1) (mwr (mwr (mwr M 222 k (nI 0)) 225 k (nI 1)) 226 k (nI v)) (by omega) (by omega) (fun i hi => by
          by_cases q : i = k
          · subst q
            refine ⟨?_, ?_, ?_⟩
            · rw [mwr_off _ _ _ (by omega), mwr_off _ _ _ (by omega), mwr_at]
            · rw [mwr_off _ _ _ (by omega), mwr_at]
            · rw [mwr_at, hv]
          · obtain ⟨a, b, c⟩ := h3 i (by omega)
            refine ⟨?_, ?_, ?_⟩
            · rw [mwr_off _ _ _ (by omega), mwr_off _ _ _ (by omega), mwr_in _ q]; exact a
            · rw [mwr_off _ _ _ (by omega), mwr_in _ q, mwr_off _ _ _ (by omega)]; exact b
            · rw [mwr_in _ q, mwr_off _ _ _ (by omega), mwr_off _ _ _ (by omega)]; exact c)
        exact ⟨M', e, f, fun c a b d => by rw [o c a b d, mwr_ne _ _ _ d, mwr_ne _ _ _ b, mwr_ne _ _ _ a]⟩
      rw [if_pos ((nlt (by omega) (by omega)).mpr hk), mst_n (by omega) (by omega), Option.bind_some, mst_n (by omega) (by omega), Option.bind_some]
      by_cases h10 : k < 10
      · rw [if_pos ((nlt (by omega) (by omega)).mpr h10)]
        exact fin 1 (by rw [if_pos h10])
      · rw [if_neg (fun q => h10 ((nlt (by omega) (by omega)).mp q))]
        exact fin 2 (by rw [if_neg h10])
    · rw [if_neg (fun q => hk ((nlt (by omega) (by omega)).mp q))]
      exact ⟨M, rfl, fun i hi => h3 i (by omega), fun _ _ _ _ => rfl⟩
theorem wid_lf {i : Nat} (h : i < 16) : wid (lf i) = if i < 10 then 1 else 2 := by
  unfold lf
  rw [wid_nd]
  by_cases q : i < 10
  · rw [if_pos q, if_pos q]
  · rw [if_neg q, if_neg q, if_pos h]
theorem empty_ok (M : Mem) : ∃ M', f_X7_empty M = some (nI 0, M') ∧ MT M' [] ∧ FW M M' := by
  unfold f_X7_empty
  rw [mpi_n, Option.bind_some, mpi_n, Option.bind_some]
  obtain ⟨M', e, f, o⟩ := empty_13 fuelN 0 (mwr (mwr M 218 11 (nI 16)) 218 12 (nI 0)) (by omega) (by unfold fuelN; omega) (fun i hi => by omega)
  rw [e]
  refine ⟨M', rfl, ⟨⟨List.nodup_nil, fun _ h => by cases h⟩, by simp, by simp [lsum], ?_, ?_, fun id hid => ?_, fun i hi => by simp at hi⟩, fun c hc => ?_, fun i hi => ?_⟩
  · rw [o 218 (by omega) (by omega) (by omega), mwr_in _ (by omega), mwr_at]
    rfl
  · rw [o 218 (by omega) (by omega) (by omega), mwr_at]
    rfl
  · have hi : id < 16 := by simpa using hid
    obtain ⟨a, b, c⟩ := f id hi
    rw [dn_lf hi, kind_lf, size_lf, wid_lf hi]
    exact ⟨by rw [a]; congr 1; omega, b, c, fun _ => trivial⟩
  · rw [o c (by omega) (by omega) (by omega), mwr_ne _ _ _ (by omega), mwr_ne _ _ _ (by omega)]
  · rw [o 218 (by omega) (by omega) (by omega), mwr_in _ (by omega), mwr_in _ (by omega)]
/-- the locals that are there already -/
def LI (M : Mem) (tb L : List T) (k : Nat) : Prop := ∀ i, i < 16 + k → i < 16 + L.length → ∃ y, y < 16 + tb.length ∧ M 227 i = nI y ∧ dn tb y = dn L i
theorem load_86 {k40 : Int32 → Int32 → Int32 → Int32 → Mem → Option Rv} {w p : Nat} {x3 : Int32} {k at' ls nk v : Nat} {ki r : Nat → Nat} (hb : bw w p + 484 ≤ 31088) (hat : at' + 2 < 31088) (hls : ls + nk ≤ 120) (M0 : Mem) (h0 : M0 219 at' = nI v) (h1 : M0 219 (at' + 1) = nI ls) (h14 : M0 218 14 = nI nk) (hr : ∀ j, j < nk → ki j < 8000 ∧ M0 219 (bw w p + 362 + ls + j) = nI (ki j) ∧ M0 227 (ki j) = nI (r j)) :
    ∀ (n j : Nat) (M : Mem), j ≤ nk → nk - j < n → (∀ c, c ≠ 230 → M c = M0 c) → (∀ i, i < j → M 230 i = nI (r i)) →
    ∃ M', f_X7_load_86 k40 n (nI w) (nI p) x3 (nI k) (nI at') (nI j) M = ((f_X7_makeList (nI v) M').bind fun q3 => (mst q3.2 227 8000 (nI (16 + k)) q3.1).bind fun M4 => k40 (nI w) (nI p) x3 (nI (k + 1)) M4) ∧ (∀ c, c ≠ 230 → M' c = M0 c) ∧ ∀ i, i < nk → M' 230 i = nI (r i) := by
  intro n
  induction n with
  | zero => intro j M _ h; omega
  | succ n ih =>
    intro j M h2 h3 h4 h5
    rw [f_X7_load_86]
    unfold f_X7_load_212
    rw [h4 218 (by omega), h14]
    by_cases hj : j < nk
    · obtain ⟨a1, a2, a3⟩ := hr j hj
      rw [if_pos ((nlt (by omega) (by omega)).mpr hj), nI_add, mrd_n (by omega) (by omega), Option.bind_some, h4 219 (by omega), h1, nI_add, nI_add, cell_ok, Option.bind_some]
      dsimp only
      have e : bw w p + (362 + ls + j) = bw w p + 362 + ls + j := by omega
      rw [e, mrd_n (by omega) (by omega), Option.bind_some, h4 219 (by omega), a2, mrd_n a1 (by omega), Option.bind_some, h4 227 (by omega), a3, mst_n (by omega) (by omega), Option.bind_some, nI_add]
      refine ih (j + 1) _ (by omega) (by omega) (fun c hc => by rw [mwr_ne _ _ _ hc, h4 c hc]) (fun i hi => ?_)
      by_cases q : i = j
      · subst q; rw [mwr_at]
      · rw [mwr_in _ q, h5 i (by omega)]
    · have : j = nk := by omega
      subst this
      rw [if_neg (fun q => hj ((nlt (by omega) (by omega)).mp q)), mrd_n (by omega) (by omega), Option.bind_some, h4 219 (by omega), h0, nI_add, nI_add]
      exact ⟨M, rfl, h4, h5⟩
theorem mload_40 {U : List T} {w p : Nat} {t : T} {L : List T} (hw : w < 8) (hp : p < 8) (hU : UBM U) (hsz : size t ≤ 120) (hS : ∀ x ∈ subl t, x ∈ U) (hok : okT L) (hL : ∀ x ∈ L, x ∈ subl t) {id : Nat} (hid : id < 16 + L.length) (hd : dn L id = t) :
    ∀ (n k : Nat) (M : Mem) (tb : List T), MT M tb → (∀ x ∈ tb, x ∈ U) → k ≤ L.length → L.length - k < n → LI M tb L k → M 219 (bw w p) = nI id → (∀ i (h : i < L.length), ndQ (M 219) (bw w p) i L L[i]) →
    ∃ (y : Nat) (M' : Mem) (tc : List T), f_X7_load_40 n (nI w) (nI p) (nI L.length) (nI k) M = some (nI y, M') ∧ MT M' (tb ++ tc) ∧ (∀ x ∈ tc, x ∈ subl t) ∧ y < 16 + (tb ++ tc).length ∧ dn (tb ++ tc) y = t ∧ FW M M' := by
  obtain ⟨c1, c2⟩ := sub_cap hok hL hsz
  have hbw := bw_le hw hp
  intro n
  induction n with
  | zero => intro k M tb _ _ _ h; omega
  | succ n ih =>
    intro k M tb h hT hk hn hI hroot hQ
    have hl := h.2.1
    rw [f_X7_load_40]
    by_cases hkl : k < L.length
    · obtain ⟨a1, a2, a3⟩ := hQ k hkl
      have htL : L[k] ∈ U := hS _ (hL _ (List.getElem_mem _))
      have hkk := hok.2 L[k] (List.getElem_mem _)
      have hAl := AR_le hkk.1
      have hLk : dn L (16 + k) = L[k] := dn_nd hkl
      rw [if_pos ((nlt (by omega) (by omega)).mpr hkl), nmul, nI_add, cell_ok, Option.bind_some]
      dsimp only
      have eat : bw w p + (2 + 3 * k) = bw w p + 2 + 3 * k := by omega
      rw [eat, mrd_n (by omega) (by omega), Option.bind_some, a1]
      -- the end of the step
      have fin : ∀ (y : Nat) (M1 : Mem) (tc : List T), MT M1 (tb ++ tc) → y < 16 + (tb ++ tc).length → dn (tb ++ tc) y = L[k] → (tc = [] ∨ tc = [L[k]]) → M1 227 = M 227 → M1 219 = M 219 → FW M M1 →
          ∃ (z : Nat) (M' : Mem) (td : List T), ((mst M1 227 8000 (nI (16 + k)) (nI y)).bind fun M4 => f_X7_load_40 n (nI w) (nI p) (nI L.length) (nI (k + 1)) M4) = some (nI z, M') ∧ MT M' (tb ++ td) ∧ (∀ x ∈ td, x ∈ subl t) ∧ z < 16 + (tb ++ td).length ∧ dn (tb ++ td) z = t ∧ FW M M' := by
        clear a2 a3
        intro y M1 tc f1 i1 d1 l1 b1 b2 o1
        have hsub : ∀ x ∈ tc, x ∈ subl t := fun x hx => by
          rcases l1 with rfl | rfl
          · cases hx
          · rw [List.mem_singleton.mp hx]; exact hL _ (List.getElem_mem _)
        rw [mst_n (by omega) (by omega), Option.bind_some]
        obtain ⟨z, M', td, e2, f2, s2, i2, d2, o2⟩ := ih (k + 1) (mwr M1 227 (16 + k) (nI y)) (tb ++ tc) (f1.fb227 _ _) (fun x hx => by
          rcases List.mem_append.mp hx with hx | hx
          · exact hT x hx
          · exact hS x (hsub x hx)) (by omega) (by omega) (fun i hi hi2 => by
          by_cases q : i = 16 + k
          · subst q
            exact ⟨y, i1, mwr_at _ _ _ _, by rw [d1, hLk]⟩
          · obtain ⟨u, u1, u2, u3⟩ := hI i (by omega) hi2
            exact ⟨u, by rw [List.length_append]; omega, by rw [mwr_in _ q, b1]; exact u2, by rw [dn_app u1]; exact u3⟩) (by rw [mwr_off _ _ _ (by omega), b2]; exact hroot) (fun i hi => by rw [mwr_ne _ _ _ (show (219 : Nat) ≠ 227 by omega), b2]; exact hQ i hi)
        refine ⟨z, M', tc ++ td, e2, by rw [← List.append_assoc]; exact f2, fun x hx => ?_, by rw [← List.append_assoc]; exact i2, by rw [← List.append_assoc]; exact d2, o1.tr (FW.tr ⟨fun c hc => by rw [mwr_ne _ _ _ (by omega)], fun i _ => by rw [mwr_off _ _ _ (by omega)]⟩ o2)⟩
        rcases List.mem_append.mp hx with hx | hx
        · exact hsub x hx
        · exact s2 x hx
      by_cases k20 : kind L[k] < 20
      · obtain ⟨x, y, hx, hy, p1, p2, p3, p4⟩ := a2 k20
        obtain ⟨u, u1, u2, u3⟩ := hI x (by omega) (by omega)
        obtain ⟨v, v1, v2, v3⟩ := hI y (by omega) (by omega)
        unfold f_X7_load_212
        rw [if_pos ((nlt (by omega) (by omega)).mpr (show kind L[k] - 15 < 5 by omega))]
        simp (disch := omega) only [nI_add, mrd_n, Option.bind_some, a1, p1, p2, u2, v2]
        have hnd : nd (kind L[k]) (prs (kind L[k]) (dn tb u) (dn tb v)) = L[k] := by
          rw [u3, v3, ← p3, nd_eta]
        have hv0 : kind L[k] < 18 → v = 0 := fun q => by
          rw [p4 q, dn_lf (show 0 < 16 by omega), ← dn_lf (tb := tb) (show 0 < 16 by omega)] at v3
          exact dn_inj h.1 v1 (by omega) v3
        obtain ⟨z, M1, tc, e1, f1, i1, d1, l1, o1, -⟩ := mmake_ok h hkk.2 (by omega) u1 v1 hv0 (fun hnew => by
          rw [hnd] at hnew
          exact (UBM_cap hU h.1.1 hT htL hnew).1)
        rw [hnd] at d1 l1
        rw [e1, Option.bind_some]
        exact fin z M1 tc f1 i1 d1 (by rcases l1 with l1 | l1; exact Or.inl l1; exact Or.inr l1.1) (o1.1 227 (by omega)) (o1.1 219 (by omega)) o1.fb.fw
      · obtain ⟨p1, p2, r, p3⟩ := a3 (by omega)
        have h3 := lsum_succ hkl
        have h4 := lsum_mono (tb := L) (i := k + 1) (j := L.length) (by omega)
        have h6 : lw L[k] = nkid L[k] := if_pos (by omega)
        rw [if_neg (fun q => by have := (nlt (by omega) (by omega)).mp q; omega)]
        rw [nI_add, mrd_n (by omega) (by omega), Option.bind_some, p2, mpi_n, Option.bind_some]
        have hch : ∀ j, ∃ y, ∀ hj : j < nkid L[k], y < 16 + tb.length ∧ M 227 (r j) = nI y ∧ dn tb y = (kids L[k])[j] := fun j => by
          by_cases hj : j < nkid L[k]
          · obtain ⟨r1, r2, r3⟩ := p3 j hj
            obtain ⟨y, y1, y2, y3⟩ := hI (r j) (by omega) (by omega)
            exact ⟨y, fun _ => ⟨y1, y2, by rw [y3, r3]⟩⟩
          · exact ⟨0, fun q => absurd q hj⟩
        have hyy : ∃ yy : Nat → Nat, ∀ j (hj : j < nkid L[k]), yy j < 16 + tb.length ∧ M 227 (r j) = nI (yy j) ∧ dn tb (yy j) = (kids L[k])[j] := ⟨fun j => Classical.choose (hch j), fun j hj => Classical.choose_spec (hch j) hj⟩
        obtain ⟨yy, hy⟩ := hyy
        obtain ⟨M1, e1, g1, g2⟩ := load_86 (k40 := f_X7_load_40 n) (w := w) (p := p) (x3 := nI L.length) (k := k) (at' := bw w p + 2 + 3 * k) (ls := lsum L k) (nk := nkid L[k]) (v := kind L[k] - 15) (ki := r) (r := yy) (by omega) (by omega) (by omega) (mwr M 218 14 (nI (nkid L[k]))) (by rw [mwr_off _ _ _ (by omega)]; exact a1) (by rw [mwr_off _ _ _ (by omega)]; exact p1) (mwr_at _ _ _ _) (fun j hj => by
          obtain ⟨r1, r2, r3⟩ := p3 j hj
          refine ⟨by omega, by rw [mwr_off _ _ _ (by omega)]; exact r2, by rw [mwr_off _ _ _ (by omega)]; exact (hy j hj).2.1⟩) fuelN 0 (mwr M 218 14 (nI (nkid L[k]))) (Nat.zero_le _) (by unfold fuelN; omega) (fun _ _ => rfl) (fun i hi => by omega)
        rw [e1]
        have o0 : FPut M M1 := ⟨fun c p q => by rw [g1 c q, mwr_ne _ _ _ p], fun i p q => by rw [g1 218 (by omega), mwr_in _ p]⟩
        have hnd : nd (kind L[k]) (kids L[k]) = L[k] := nd_eta _
        have hrw : RW M1 tb 230 0 (kids L[k]) yy := fun j hj => ⟨(hy j hj).1, by rw [Nat.zero_add]; exact g2 j hj, (hy j hj).2.2⟩
        obtain ⟨z, M2, tc, e2, f2, i2, d2, l2, o2, -⟩ := mlist_ok (h.put o0) (k := kind L[k]) (ts := kids L[k]) (by omega) (by show nkid L[k] ≤ 4000; omega) (by rw [hnd]; exact hkk.1) (by rw [g1 218 (by omega), mwr_at]) hrw (fun hnew => by
          rw [hnd] at hnew
          exact UBM_cap hU h.1.1 hT htL hnew)
        rw [hnd] at d2 l2
        rw [e2, Option.bind_some]
        exact fin z M2 tc f2 i2 d2 (by rcases l2 with l2 | l2; exact Or.inl l2; exact Or.inr l2.1) (by rw [o2.1 227 (by omega), o0.1 227 (by omega) (by omega)]) (by rw [o2.1 219 (by omega), o0.1 219 (by omega) (by omega)]) (o0.fb.fw.tr o2.fb.fw)
    · have : k = L.length := by omega
      subst this
      obtain ⟨y, y1, y2, y3⟩ := hI id hid hid
      rw [if_neg (fun q => hkl ((nlt (by omega) (by omega)).mp q)), cell_ok, Option.bind_some]
      dsimp only
      rw [Nat.add_zero, mrd_n (by omega) (by omega), Option.bind_some, hroot, mrd_n (by omega) (by omega), Option.bind_some, y2]
      refine ⟨y, M, [], rfl, by rw [List.append_nil]; exact h, (fun _ h => by cases h), by rw [List.append_nil]; exact y1, by rw [List.append_nil, y3, hd], FW.rfl' M⟩
theorem load_15 {w p : Nat} {x3 : Int32} : ∀ (n k : Nat) (M : Mem), k ≤ 16 → 16 - k < n → (∀ i, i < k → M 227 i = nI i) → ∃ M', f_X7_load_15 n (nI w) (nI p) x3 (nI k) M = f_X7_load_40 fuelN (nI w) (nI p) x3 (nI 0) M' ∧ (∀ i, i < 16 → M' 227 i = nI i) ∧ ∀ c, c ≠ 227 → M' c = M c := by
  intro n
  induction n with
  | zero => intro k M _ h; omega
  | succ n ih =>
    intro k M h1 h2 h3
    rw [f_X7_load_15]
    by_cases hk : k < 16
    · rw [if_pos ((nlt (by omega) (by omega)).mpr hk), mst_n (by omega) (by omega), Option.bind_some, nI_add]
      obtain ⟨M', e, f, o⟩ := ih (k + 1) (mwr M 227 k (nI k)) (by omega) (by omega) (fun i hi => by
        by_cases q : i = k
        · subst q; exact mwr_at _ _ _ _
        · rw [mwr_in _ q]; exact h3 i (by omega))
      exact ⟨M', e, f, fun c hc => by rw [o c hc, mwr_ne _ _ _ hc]⟩
    · rw [if_neg (fun q => hk ((nlt (by omega) (by omega)).mp q))]
      exact ⟨M, rfl, fun i hi => h3 i (by omega), fun _ _ => rfl⟩
theorem mload_ok {U : List T} {M : Mem} {tb : List T} {w p : Nat} {t : T} (hw : w < 8) (hp : p < 8) (hU : UBM U) (h : MT M tb) (hsz : size t ≤ 120) (hS : ∀ x ∈ subl t, x ∈ U) (hT : ∀ x ∈ tb, x ∈ U) (hP : PR (M 219) (bw w p) t) :
    ∃ (y : Nat) (M' : Mem) (tc : List T), f_X7_load (nI w) (nI p) M = some (nI y, M') ∧ MT M' (tb ++ tc) ∧ (∀ x ∈ tc, x ∈ subl t) ∧ y < 16 + (tb ++ tc).length ∧ dn (tb ++ tc) y = t ∧ FW M M' := by
  obtain ⟨L, a1, a2, ⟨id, b1, b2, b3⟩, a4, a5⟩ := hP
  have hl := h.2.1
  have hbw := bw_le hw hp
  unfold f_X7_load
  rw [cell_ok, Option.bind_some]
  dsimp only
  rw [mrd_n (by omega) (by omega), Option.bind_some, a4]
  obtain ⟨M1, e1, f1, o1⟩ := load_15 (w := w) (p := p) (x3 := nI L.length) fuelN 0 M (by omega) (by unfold fuelN; omega) (fun i hi => by omega)
  rw [e1]
  obtain ⟨c1, c2⟩ := sub_cap a1 a2 hsz
  obtain ⟨y, M2, tc, e2, f2, s2, i2, d2, o2⟩ := mload_40 hw hp hU hsz hS a1 a2 b1 b3 fuelN 0 M1 tb (h.congr (fun c a b => by rw [o1 c (by omega)]) (o1 229 (by omega)) (by rw [o1 218 (by omega)]) (by rw [o1 218 (by omega)])) hT (Nat.zero_le _) (by unfold fuelN; omega) (fun i hi _ => ⟨i, by omega, f1 i (by omega), by rw [dn_lf (by omega), dn_lf (by omega)]⟩) (by rw [o1 219 (by omega)]; exact b2) (fun i hi => by rw [o1 219 (by omega)]; exact a5 i hi)
  exact ⟨y, M2, tc, e2, f2, s2, i2, d2, FW.tr ⟨fun c hc => o1 c (by omega), fun i _ => by rw [o1 218 (by omega)]⟩ o2⟩
theorem mloadAlone_ok {M : Mem} {w p : Nat} {t : T} (hw : w < 8) (hp : p < 8) (hsz : size t ≤ 120) (hP : PR (M 219) (bw w p) t) :
    ∃ (y : Nat) (M' : Mem) (tb : List T), f_X7_loadAlone (nI w) (nI p) M = some (nI y, M') ∧ MT M' tb ∧ (∀ x ∈ tb, x ∈ subl t) ∧ y < 16 + tb.length ∧ dn tb y = t ∧ FW M M' := by
  unfold f_X7_loadAlone
  obtain ⟨M1, e1, f1, o1⟩ := empty_ok M
  obtain ⟨y, M2, tc, e2, f2, s2, i2, d2, o2⟩ := mload_ok hw hp (subl_UBM hsz) f1 hsz (fun _ h => h) (fun _ h => by cases h) (by rw [o1.1 219 (by omega)]; exact hP)
  rw [e1, Option.bind_some, e2, Option.bind_some]
  exact ⟨y, M2, tc, rfl, f2, s2, i2, d2, o1.tr o2⟩
