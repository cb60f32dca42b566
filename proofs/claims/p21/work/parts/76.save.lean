/-! Scribe.save -/
theorem code_mk {k n : Nat} (hk : k < 32) (hn : n < 10000) : nI k ||| (nI n <<< (nI 5 &&& nI 31)) = nI (k + 32 * n) := by
  rw [pk_shlN (nI 5 &&& nI 31) 5 (by decide) (by omega), nI_or]
  have h := Nat.two_pow_add_eq_or_of_lt (i := 5) (b := k) (by omega) n
  rw [Nat.or_comm, show n * 2 ^ 5 = 2 ^ 5 * n by omega, ← h]
  congr 1
  omega
theorem save_100 {k24 : Nat → Int32 → Int32 → Int32 → Int32 → Mem → Option Rv} {tb : List T} {id x2 : Nat} {x3 x4 x6 : Int32} {ts L : List T} (hid : id < 16 + tb.length) (hts : kids (dn tb id) = ts) (hcap : ts.length + L.length ≤ 120) :
    ∀ (m n : Nat) (M : Mem), m < n → m ≤ ts.length → FT M tb → SV M 18 tb (ts.drop m ++ L) → ∃ M', f_X3_save_100 k24 n x2 x3 x4 (nI (ts.drop m ++ L).length) x6 (nI id) (nI m - nI 1) M = k24 x2 x3 x4 (nI (ts ++ L).length) (x6 + nI 1) M' ∧ FT M' tb ∧ SV M' 18 tb (ts ++ L) ∧ ∀ c, c ≠ 18 → M' c = M c := by
  intro m
  induction m with
  | zero =>
    intro n M h1 h2 hF hS
    obtain ⟨n, rfl⟩ : ∃ j, n = j + 1 := ⟨n - 1, by omega⟩
    rw [f_X3_save_100]
    unfold f_X3_save_139
    rw [if_pos (by decide)]
    exact ⟨M, rfl, hF, hS, fun _ _ => rfl⟩
  | succ m ih =>
    intro n M h1 h2 hF hS
    obtain ⟨n, rfl⟩ : ∃ j, n = j + 1 := ⟨n - 1, by omega⟩
    have hl := hF.2.1
    have h16 : 16 ≤ id := by
      rcases Nat.lt_or_ge id 16 with q | q
      · rw [dn_lf q, kids_lf] at hts
        rw [← hts] at h2
        simp at h2
      · exact q
    obtain ⟨k, k1, k2, k3⟩ := kid_ok hF h16 hid (j := m) (by rw [show nkid (dn tb id) = (kids (dn tb id)).length from rfl, hts]; omega)
    have hdl : (ts.drop (m + 1) ++ L).length = ts.length - (m + 1) + L.length := by rw [List.length_append, List.length_drop]
    have hsp : ts.drop m ++ L = ts[m] :: (ts.drop (m + 1) ++ L) := by
      rw [List.drop_eq_getElem_cons (by omega), List.cons_append]
    rw [f_X3_save_100, nsub (show 1 ≤ m + 1 by omega), Nat.add_sub_cancel]
    simp (disch := omega) only [neg_n, if_false, nlt, show (ts.drop (m + 1) ++ L).length < 120 by omega, if_true, k2, Option.bind_some, mst_n, nI_add]
    have hS' : SV (mwr M 18 (ts.drop (m + 1) ++ L).length (nI k)) 18 tb (ts.drop m ++ L) := by
      rw [hsp]
      refine ⟨⟨k, by omega, mwr_at _ _ _ _, ?_⟩, SV.mv0 hS (fun i hi => mwr_in _ (by omega))⟩
      rw [k3]
      congr 1
    obtain ⟨M', e, f, s, o⟩ := ih n (mwr M 18 (ts.drop (m + 1) ++ L).length (nI k)) (by omega) (by omega) (hF.congr (fun c _ _ => mwr_ne _ _ _ (by omega))) hS'
    rw [hsp, List.length_cons] at e
    exact ⟨M', e, f, s, fun c hc => by rw [o c hc, mwr_ne _ _ _ hc]⟩
theorem save_24 {tb : List T} {x2 p S : Nat} (hx : 20 ≤ x2) (hp : p < 8) (hS : S ≤ 120) : ∀ (n i : Nat) (L : List T) (M : Mem), S - i < n → i + (L.map size).sum = S → FT M tb → SV M 18 tb L → ∃ M', f_X3_save_24 n x2 (nI p) (nI S) (nI L.length) (nI i) M = some (nI 0, M') ∧ M' (x2 + 1) p = nI S ∧ CA M' (x2 + 2) (p * 120 + i) (L.map codes).flatten ∧ (∀ c, c ≠ 18 → c ≠ x2 + 1 → c ≠ x2 + 2 → M' c = M c) ∧ (∀ j, j ≠ p → M' (x2 + 1) j = M (x2 + 1) j) ∧ ∀ j, j < p * 120 + i ∨ p * 120 + 120 ≤ j → M' (x2 + 2) j = M (x2 + 2) j := by
  intro n
  induction n with
  | zero => intro i L M h; omega
  | succ n ih =>
    intro i L M h1 h2 hF hV
    rw [f_X3_save_24]
    unfold f_X3_save_145
    match L, h2, hV with
    | [], h2, hV =>
      have : i = S := by simpa using h2
      subst this
      simp (disch := omega) only [nlt, Nat.lt_irrefl, if_false, mst_n, Option.bind_some]
      refine ⟨_, rfl, mwr_at _ _ _ _, fun j hj => by simp at hj, fun c _ hc _ => mwr_ne _ _ _ hc, fun j hj => mwr_in _ hj, fun j _ => mwr_off _ _ _ (by omega)⟩
    | v :: L, h2, ⟨⟨id, v1, v2, v3⟩, hV⟩ =>
      have hl := hF.2.1
      have sp := size_pos v
      have hlen := len_le_size L
      simp only [List.map_cons, List.sum_cons] at h2
      obtain ⟨a1, a2, -, -, -, -⟩ := hF.2.2.2.2.2.1 id v1
      rw [v3] at a1 a2
      have hk := AR_le (dn_AR hF.1 v1)
      rw [v3] at hk
      have hsz := size_eq v
      have hkl := len_le_size (kids v)
      have hi : i < S := by omega
      simp (disch := omega) only [nlt, hi, show i < 120 by omega, if_true, List.length_cons, Nat.succ_pos, nsub, Nat.add_sub_cancel, mrd_n, v2, Option.bind_some, a1, a2, nmul, nI_add, mst_n]
      rw [code_mk (show kind v < 32 by omega) (show nkid v < 10000 by unfold nkid; omega)]
      obtain ⟨M1, e1, f1, s1, o1⟩ := save_100 (k24 := f_X3_save_24 n) (x2 := x2) (x3 := nI p) (x4 := nI S) (x6 := nI i) (ts := kids v) (L := L) v1 (by rw [v3]) (by omega) (kids v).length fuelN (mwr M (x2 + 2) (p * 120 + i) (nI (kind v + 32 * nkid v))) (by unfold fuelN; omega) (Nat.le_refl _) (hF.congr (fun c _ _ => mwr_ne _ _ _ (by omega))) (by
        rw [List.drop_length, List.nil_append]
        exact hV.mv0 (fun j _ => mwr_off _ _ _ (by omega)))
      rw [List.drop_length, List.nil_append] at e1
      rw [e1, nI_add]
      obtain ⟨M2, e2, b1, b2, b3, b4, b5⟩ := ih (i + 1) (kids v ++ L) M1 (by omega) (by rw [List.map_append, List.sum_append]; omega) f1 s1
      rw [e2]
      refine ⟨M2, rfl, b1, ?_, fun c h18 hx1 hx2 => ?_, fun j hj => ?_, fun j hj => ?_⟩
      · have hcv : codes v = (kind v + 32 * nkid v) :: ((kids v).map codes).flatten := by
          have := codes_nd (kind v) (kids v)
          rwa [nd_eta] at this
        intro j hj
        have hfl : ((v :: L).map codes).flatten = (kind v + 32 * nkid v) :: ((kids v ++ L).map codes).flatten := by
          rw [List.map_cons, List.flatten_cons, hcv, List.map_append, List.flatten_append]
          rfl
        simp only [hfl]
        rw [hfl] at hj
        match j, hj with
        | 0, hj =>
          rw [b5 _ (by omega), o1 _ (by omega), Nat.add_zero (p * 120 + i), mwr_at]
          rfl
        | j + 1, hj =>
          have := b2 j (by simpa using hj)
          rw [show p * 120 + i + (j + 1) = p * 120 + (i + 1) + j by omega, this]
          rfl
      · rw [b3 c h18 hx1 hx2, o1 c h18, mwr_ne _ _ _ hx2]
      · rw [b4 j hj, o1 _ (by omega), mwr_off _ _ _ (by omega)]
      · rw [b5 j (by omega), o1 _ (by omega), mwr_in _ (by omega)]
theorem save_ok {M : Mem} {tb : List T} {id x2 p : Nat} {t : T} (hx : 20 ≤ x2) (hp : p < 8) (h : FT M tb) (hid : id < 16 + tb.length) (hd : dn tb id = t) (hs : size t ≤ 120) :
    ∃ M', f_X3_save (nI id) x2 (nI p) M = some (nI 0, M') ∧ FT M' tb ∧ CP M' x2 p t ∧ (∀ c, c ≠ 18 → c ≠ x2 + 1 → c ≠ x2 + 2 → M' c = M c) ∧ (∀ j, j ≠ p → M' (x2 + 1) j = M (x2 + 1) j) ∧ ∀ j, j < p * 120 ∨ p * 120 + 120 ≤ j → M' (x2 + 2) j = M (x2 + 2) j := by
  have hl := h.2.1
  obtain ⟨-, -, a3, -, -, -⟩ := h.2.2.2.2.2.1 id hid
  rw [hd] at a3
  unfold f_X3_save
  simp (disch := omega) only [mrd_n, Option.bind_some, a3, mst_n]
  obtain ⟨M', e, b1, b2, b3, b4, b5⟩ := save_24 (tb := tb) hx hp hs fuelN 0 [t] (mwr M 18 0 (nI id)) (by unfold fuelN; omega) (by simp) (h.congr (fun c _ _ => mwr_ne _ _ _ (by omega))) ⟨⟨id, hid, mwr_at _ _ _ _, hd⟩, trivial⟩
  rw [List.length_singleton] at e
  rw [e]
  have far : ∀ c, c ≠ 18 → c ≠ x2 + 1 → c ≠ x2 + 2 → M' c = M c := fun c h1 h2 h3 => by rw [b3 c h1 h2 h3, mwr_ne _ _ _ h1]
  refine ⟨M', rfl, h.congr (fun c _ _ => far c (by omega) (by omega) (by omega)), ⟨b1, ?_⟩, far, fun j hj => by rw [b4 j hj, mwr_off _ _ _ (by omega)], fun j hj => by rw [b5 j (by omega), mwr_off _ _ _ (by omega)]⟩
  simp only [List.map_cons, List.map_nil, List.flatten_cons, List.flatten_nil, List.append_nil, Nat.add_zero] at b2
  exact b2
