/-! types(): a wish is typed by a cell -/
def smw (V : List T) : Nat := (V.map MW).sum
def nvl : List Nat → Nat
  | [] => 0
  | c :: cs => (if isV c = true then 1 else 0) + nvl cs
theorem nvl_app (a b : List Nat) : nvl (a ++ b) = nvl a + nvl b := by
  induction a with
  | nil => exact (Nat.zero_add _).symm
  | cons c a ih => show _ + nvl (a ++ b) = _ + nvl a + nvl b; rw [ih, Nat.add_assoc]
theorem smw_cons (v : T) (V : List T) : smw (v :: V) = MW v + smw V := by unfold smw; rw [List.map_cons, List.sum_cons]
theorem appF_mw : ∀ (W : List Nat) (V : List T), VN V → VN (appF V W).1 ∧ smw (appF V W).1 ≤ smw V
  | [], [], h => by rw [appF]; exact ⟨h, Nat.le_refl _⟩
  | [], v :: V, h => by rw [appF]; exact ⟨h, Nat.le_refl _⟩
  | w :: W, [], h => by rw [appF]; exact ⟨h, Nat.le_refl _⟩
  | w :: W, v :: V, h => by
    rw [appF]
    split
    · obtain ⟨⟨h1, h2⟩, h3⟩ := VN_cons.mp h
      obtain ⟨u1, u2, u3, -⟩ := unT_ok (w := w) h1 h2
      obtain ⟨i1, i2⟩ := appF_mw W (unT w v :: V) (VN_cons.mpr ⟨⟨u1, u2⟩, h3⟩)
      refine ⟨i1, Nat.le_trans i2 ?_⟩
      rw [smw_cons, smw_cons]
      omega
    · exact ⟨h, Nat.le_refl _⟩
theorem cmb_mw (l : Nat) : ∀ (W : List Nat) (V : List T), VN V → VN (cmb l V W).1 ∧ smw (cmb l V W).1 ≤ smw V
  | [], [], h => by rw [cmb]; exact ⟨h, Nat.le_refl _⟩
  | [], v :: V, h => by rw [cmb]; exact ⟨h, Nat.le_refl _⟩
  | w :: W, [], h => by rw [cmb]; exact ⟨h, Nat.le_refl _⟩
  | w :: W, [v], h => by rw [cmb]; exact ⟨h, Nat.le_refl _⟩
  | w :: W, b :: a :: V, h => by
    rw [cmb]
    split
    · exact ⟨h, Nat.le_refl _⟩
    · obtain ⟨⟨h1, h2⟩, h3⟩ := VN_cons.mp h
      obtain ⟨⟨h4, h5⟩, h6⟩ := VN_cons.mp h3
      obtain ⟨u1, u2, u3, -⟩ := biT_ok (w := w) h4 h5 h1 h2
      obtain ⟨i1, i2⟩ := cmb_mw l W (biT w a b :: V) (VN_cons.mpr ⟨⟨u1, u2⟩, h6⟩)
      refine ⟨i1, Nat.le_trans i2 ?_⟩
      rw [smw_cons, smw_cons, smw_cons]
      omega
theorem rd1_mw (c : Nat) (V : List T) (W : List Nat) (h : VN V) : VN (rd1 c V W).1 ∧ smw (rd1 c V W).1 ≤ smw V + if isV c = true then 1 else 0 := by
  unfold rd1
  by_cases q : isV c = true
  · rw [if_pos q, if_pos q]
    have hv := vid_lt q
    obtain ⟨i1, i2⟩ := appF_mw W (valT c :: V) (VN_cons.mpr ⟨⟨by rw [valT_vid]; exact AR_lf hv, by rw [valT_vid]; exact NF_lf _ hv⟩, h⟩)
    refine ⟨i1, Nat.le_trans i2 ?_⟩
    rw [smw_cons, valT_vid, MW_lf _ hv]
    omega
  · rw [if_neg q, if_neg q, Nat.add_zero]
    split
    · obtain ⟨i1, i2⟩ := cmb_mw 1 W V h
      obtain ⟨j1, j2⟩ := appF_mw (cmb 1 V W).2.tail (cmb 1 V W).1 i1
      exact ⟨j1, Nat.le_trans j2 i2⟩
    · split
      · exact cmb_mw _ W V h
      · exact ⟨h, Nat.le_refl _⟩
theorem rdA_mw : ∀ (cs : List Nat) (V : List T) (W : List Nat), VN V → VN (rdA cs V W).1 ∧ smw (rdA cs V W).1 ≤ smw V + nvl cs
  | [], V, W, h => ⟨h, Nat.le_refl _⟩
  | c :: cs, V, W, h => by
    obtain ⟨i1, i2⟩ := rd1_mw c V W h
    obtain ⟨j1, j2⟩ := rdA_mw cs (rd1 c V W).1 (rd1 c V W).2 i1
    refine ⟨j1, ?_⟩
    show smw (rdA cs (rd1 c V W).1 (rd1 c V W).2).1 ≤ smw V + ((if isV c = true then 1 else 0) + nvl cs)
    omega
theorem mw_mem {V : List T} {v : T} (h : v ∈ V) : MW v ≤ smw V := le_sum_of_mem (List.mem_map_of_mem h)
theorem rdT_mw (cs : List Nat) : MW (rdT cs) ≤ max 1 (nvl cs) := by
  obtain ⟨i1, i2⟩ := rdA_mw cs [] [] (fun v h => by cases h)
  obtain ⟨j1, j2⟩ := cmb_mw 1 (rdA cs [] []).2 (rdA cs [] []).1 i1
  have h0 : smw [] = 0 := rfl
  unfold rdT
  cases e : (cmb 1 (rdA cs [] []).1 (rdA cs [] []).2).1.getLast? with
  | none => show MW (lf 0) ≤ _; rw [MW_lf 0 (by omega)]; omega
  | some v =>
    have := mw_mem (List.mem_of_getLast? e)
    show MW v ≤ _
    omega
theorem rdT_8 {cs : List Nat} (h : nvl cs ≤ 3) : (its1 20 (rdT cs)).length ≤ 8 := by
  rw [its1_len]
  have h1 := wdt_MW (Or.inl rfl) (rdT cs)
  have h2 := rdT_mw cs
  omega
/-! the grammar, as far as it is needed -/
def Gd (cs : List Nat) (due : Bool) (d n : Nat) : Prop := (∀ r, flt (cs ++ r) true 0 0 = flt r due d cs.length) ∧ nvl cs ≤ n
theorem Gd_nil : Gd [] true 0 0 := ⟨fun _ => rfl, Nat.le_refl _⟩
theorem isF_not {x : Nat} (h : isF x = true) : isV x = false ∧ x ≠ 40 ∧ x < 65536 := by
  rcases isF_cases h with rfl | rfl | rfl | rfl | rfl <;> decide
theorem Gd_pre {cs : List Nat} {d n x : Nat} (h : Gd cs true d n) (hx : isF x = true) : Gd (cs ++ [x]) true d n := by
  obtain ⟨h1, h2, -⟩ := isF_not hx
  refine ⟨fun r => ?_, ?_⟩
  · rw [List.append_assoc, h.1]
    show flt (x :: r) true d cs.length = _
    rw [flt, if_neg (fun q => h2 q.1), if_neg (by rw [h1]; decide), if_pos hx, List.length_append]
    rfl
  · rw [nvl_app]
    show nvl cs + ((if isV x = true then 1 else 0) + 0) ≤ n
    rw [h1]
    exact h.2
theorem Gd_val {cs : List Nat} {d n l : Nat} (h : Gd cs true d n) (h1 : 97 ≤ l) (h2 : l ≤ 102) : Gd (cs ++ [l]) false d (n + 1) := by
  have hv : isV l = true := by
    unfold isV
    simp
    omega
  refine ⟨fun r => ?_, ?_⟩
  · rw [List.append_assoc, h.1]
    show flt (l :: r) true d cs.length = _
    rw [flt, if_neg (fun q => by have := q.1; omega), if_pos hv, List.length_append]
    rfl
  · rw [nvl_app]
    show nvl cs + ((if isV l = true then 1 else 0) + 0) ≤ n + 1
    rw [if_pos hv]
    have := h.2
    omega
def isB (b : Nat) : Prop := b = 124 ∨ b = 38 ∨ b = 85 ∨ b = 82
theorem Gd_bet {cs : List Nat} {d n b : Nat} (h : Gd cs false d n) (hb : isB b) : Gd (cs ++ [b]) true d n := by
  have h1 : b ≠ 41 ∧ 0 < bnd b ∧ isV b = false := by rcases hb with rfl | rfl | rfl | rfl <;> decide
  refine ⟨fun r => ?_, ?_⟩
  · rw [List.append_assoc, h.1]
    show flt (b :: r) false d cs.length = _
    rw [flt, if_neg (fun q => h1.1 q.1), if_pos h1.2.1, List.length_append]
    rfl
  · rw [nvl_app]
    show nvl cs + ((if isV b = true then 1 else 0) + 0) ≤ n
    rw [h1.2.2]
    exact h.2
theorem Gd_open {cs : List Nat} {d n : Nat} (h : Gd cs true d n) (hd : d < 4) : Gd (cs ++ [40]) true (d + 1) n := by
  refine ⟨fun r => ?_, ?_⟩
  · rw [List.append_assoc, h.1]
    show flt (40 :: r) true d cs.length = _
    rw [flt, if_pos ⟨rfl, hd⟩, List.length_append]
    rfl
  · rw [nvl_app]
    exact h.2
theorem Gd_close {cs : List Nat} {d n : Nat} (h : Gd cs false (d + 1) n) : Gd (cs ++ [41]) false d n := by
  refine ⟨fun r => ?_, ?_⟩
  · rw [List.append_assoc, h.1]
    show flt (41 :: r) false (d + 1) cs.length = _
    rw [flt, if_pos ⟨rfl, Nat.succ_pos _⟩, List.length_append]
    rfl
  · rw [nvl_app]
    exact h.2
theorem Gd_end {cs : List Nat} {n : Nat} (h : Gd cs false 0 n) : flt cs true 0 0 = none := by
  have := h.1 []
  rw [List.append_nil] at this
  rw [this, flt]
  exact if_neg (by decide)
/-! the program -/
theorem mi2cN {q : Nat} (h : q < 65536) : mi2c (nI q) = nI q := by
  unfold mi2c
  rw [pk_char, nI_toBV, BitVec.toNat_ofNat]
  congr 1
  omega
def txA (a : Abs) (cs : List Nat) : Abs := (a.1, a.2.1, a.2.2.1, cs)
theorem c_ty {M : Mem} {a : Abs} {cs : List Nat} {q : Nat} (hA : okA (txA a cs)) (h : RelC M (txA a cs)) (hq : q < 65536) (hlt : cs.length < 60) : Ans (f_X6_type (nI q) M) (nI (cs.length + 1)) (txA a (cs ++ [q])) ∧ okA (txA a (cs ++ [q])) := by
  refine ⟨c_type hA h hq hlt, hA.1, hA.2.1, hA.2.2.1, hA.2.2.2.1, ?_, fun c hc => ?_⟩
  · show (cs ++ [q]).length ≤ 60
    rw [List.length_append]
    exact hlt
  · rcases List.mem_append.mp hc with hc | hc
    · exact hA.2.2.2.2.2 c hc
    · rw [List.mem_singleton.mp hc]; exact hq
/-- what a piece of typing leaves -/
def Ty (o : Option Rv) (a : Abs) (due : Bool) (d n m : Nat) : Prop := ∃ cs, Ans o (nI 1) (txA a cs) ∧ okA (txA a cs) ∧ Gd cs due d n ∧ cs.length ≤ m
theorem posN {n : Nat} (h : n < 1000000) : nI 0 < nI (n + 1) := (nlt (by omega) (by omega)).mpr (by omega)
theorem th_90 {M : Mem} {a : Abs} {cs : List Nat} {c d n m : Nat} (hc : c < 2147483648) (hA : okA (txA a cs)) (h : RelC M (txA a cs)) (hg : Gd cs true d n) (hl : cs.length ≤ m) (hm : m < 60) : Ty (f_L_thing_90 (nI c) (nI 1) M) a false d (n + 1) (m + 1) := by
  unfold f_L_thing_90 f_L_thing_116
  rw [if_neg (show ¬ nI 1 = nI 0 by decide), shN hc (nI 9 &&& nI 31) 9 (by decide), rmN (by omega) (by omega) (by omega), nI_add]
  obtain ⟨q, hq, e⟩ : ∃ q, q = 97 + c / 2 ^ 9 % 4 ∧ mi2c (nI (97 + c / 2 ^ 9 % 4)) = nI q := ⟨_, rfl, mi2cN (by omega)⟩
  rw [e]
  obtain ⟨t1, t2⟩ := c_ty (q := q) hA h (by omega) (by omega)
  refine ⟨cs ++ [q], ?_, t2, Gd_val hg (by omega) (by omega), by rw [List.length_append]; exact Nat.succ_le_succ hl⟩
  refine Ans.bind t1 (fun M1 g1 => ?_)
  dsimp only
  rw [if_pos (posN (by omega))]
  exact Ans.zt g1
theorem th_sign {K : Int32 → Int32 → Int32 → Mem → Option Rv} {M : Mem} {x1 x3 s : Int32} {z : Nat} (hs : s = nI z) (hz : z < 5) : ∃ q, isF q = true ∧ (if s = nI 0 then f_L_thing_72 K x1 x3 (nI 33) M else if s = nI 1 then f_L_thing_72 K x1 x3 (nI 88) M else if s = nI 2 then f_L_thing_72 K x1 x3 (nI 78) M else if s = nI 3 then f_L_thing_72 K x1 x3 (nI 71) M else f_L_thing_72 K x1 x3 (nI 70) M) = f_L_thing_72 K x1 x3 (nI q) M := by
  subst hs
  simp (disch := omega) only [neq]
  rcases (show z = 0 ∨ z = 1 ∨ z = 2 ∨ z = 3 ∨ z = 4 by omega) with rfl | rfl | rfl | rfl | rfl
  · exact ⟨33, by decide, rfl⟩
  · exact ⟨88, by decide, rfl⟩
  · exact ⟨78, by decide, rfl⟩
  · exact ⟨71, by decide, rfl⟩
  · exact ⟨70, by decide, rfl⟩
theorem th_4 {a : Abs} {c d nv : Nat} (hc : c < 2147483648) : ∀ (n j : Nat) (M : Mem) (cs : List Nat) (m : Nat), j ≤ c % 3 → c % 3 - j < n → okA (txA a cs) → RelC M (txA a cs) → Gd cs true d nv → cs.length ≤ m → m + (c % 3 - j) < 60 → Ty (f_L_thing_4 n (nI c) (nI 1) (nI j) M) a false d (nv + 1) (m + (c % 3 - j) + 1) := by
  have h3 := Nat.mod_lt c (show 0 < 3 by omega)
  intro n
  induction n with
  | zero => intro j M cs m _ h; omega
  | succ n ih =>
    intro j M cs m h1 h2 hA hM hg hl hm
    rw [f_L_thing_4, rmN hc (by omega) (by omega)]
    by_cases hj : j < c % 3
    · rw [if_pos ((nlt (by omega) (by omega)).mpr hj), if_neg (show ¬ nI 1 = nI 0 by decide)]
      have es : ∃ z, z < 5 ∧ (nI c >>> ((nI 2 + nI 3 * nI j) &&& nI 31)) - (nI c >>> ((nI 2 + nI 3 * nI j) &&& nI 31)) / nI 5 * nI 5 = nI z := by
        rcases (show j = 0 ∨ j = 1 by omega) with rfl | rfl
        · rw [shN hc _ 2 (by decide), rmN (by omega) (by omega) (by omega)]
          exact ⟨_, Nat.mod_lt _ (by omega), rfl⟩
        · rw [shN hc _ 5 (by decide), rmN (by omega) (by omega) (by omega)]
          exact ⟨_, Nat.mod_lt _ (by omega), rfl⟩
      obtain ⟨z, hz, ez⟩ := es
      obtain ⟨q, hq, e⟩ := th_sign (K := f_L_thing_4 n) (M := M) (x1 := nI c) (x3 := nI j) ez hz
      rw [e]
      obtain ⟨-, -, hq6⟩ := isF_not hq
      obtain ⟨t1, t2⟩ := c_ty (q := q) hA hM hq6 (by omega)
      unfold f_L_thing_72 f_L_thing_83
      obtain ⟨M1, e1, g1⟩ := t1
      rw [e1, Option.bind_some]
      dsimp only
      rw [if_pos (posN (by omega)), nI_add]
      have := ih (j + 1) M1 (cs ++ [q]) (m + 1) (by omega) (by omega) t2 g1 (Gd_pre hg hq) (by rw [List.length_append]; exact Nat.succ_le_succ hl) (by omega)
      rw [show m + 1 + (c % 3 - (j + 1)) + 1 = m + (c % 3 - j) + 1 by omega] at this
      exact this
    · have e : c % 3 - j = 0 := by omega
      rw [if_neg (fun q => hj ((nlt (by omega) (by omega)).mp q)), e]
      exact th_90 hc hA hM hg hl (by omega)
theorem thing_ok {M : Mem} {a : Abs} {cs : List Nat} {c d nv m : Nat} (hc : c < 2147483648) (hA : okA (txA a cs)) (h : RelC M (txA a cs)) (hg : Gd cs true d nv) (hl : cs.length ≤ m) (hm : m < 50) : Ty (f_L_thing (nI c) M) a false d (nv + 1) (m + 3) := by
  have h3 := Nat.mod_lt c (show 0 < 3 by omega)
  unfold f_L_thing
  obtain ⟨cs', k1, k2, k3, k4⟩ := th_4 (d := d) (nv := nv) hc fuelN 0 M cs m (Nat.zero_le _) (by unfold fuelN; omega) hA h hg hl (by omega)
  exact ⟨cs', k1, k2, k3, by omega⟩
theorem between_ok {M : Mem} {c : Nat} (hc : c < 2147483648) : ∃ b, isB b ∧ b < 65536 ∧ f_L_between (nI c) M = some (nI b, M) := by
  unfold f_L_between f_L_between_37
  rw [rmN hc (by omega) (by omega)]
  simp (disch := omega) only [neq]
  have hm := Nat.mod_lt c (show 0 < 4 by omega)
  have f : ∀ b, b < 65536 → mrc (nI b) M = some (nI b, M) := fun b hb => by
    unfold mrc
    rw [if_pos (nc_n hb)]
  by_cases h0 : c % 4 = 0
  · rw [if_pos h0]; exact ⟨124, Or.inl rfl, by omega, f 124 (by omega)⟩
  rw [if_neg h0]
  by_cases h1 : c % 4 = 1
  · rw [if_pos h1]; exact ⟨38, Or.inr (Or.inl rfl), by omega, f 38 (by omega)⟩
  rw [if_neg h1]
  by_cases h2 : c % 4 = 2
  · rw [if_pos h2]; exact ⟨85, Or.inr (Or.inr (Or.inl rfl)), by omega, f 85 (by omega)⟩
  rw [if_neg h2]
  exact ⟨82, Or.inr (Or.inr (Or.inr rfl)), by omega, f 82 (by omega)⟩
theorem xorN {a b : Nat} (ha : a < 2147483648) (hb : b < 2147483648) : a ^^^ b < 2147483648 := Nat.xor_lt_two_pow (n := 31) ha hb
theorem ty_93 {M : Mem} {a : Abs} {cs : List Nat} {c m : Nat} (hc : c < 2147483648) (hA : okA (txA a cs)) (h : RelC M (txA a cs)) (hg : Gd cs false 0 2) (hl : cs.length ≤ m) (hm : m < 40) : Ty (f_L_types_93 (nI c) (nI 1) M) a false 0 3 (m + 4) := by
  unfold f_L_types_93 f_L_types_135 f_L_types_140
  rw [if_neg (show ¬ nI 1 = nI 0 by decide), shN hc (nI 15 &&& nI 31) 15 (by decide), rmN (by omega) (by omega) (by omega)]
  simp (disch := omega) only [neq]
  by_cases q : c / 2 ^ 15 % 3 = 0
  · rw [if_pos q]
    exact ⟨cs, Ans.zt h, hA, ⟨hg.1, Nat.le_succ_of_le hg.2⟩, by omega⟩
  · rw [if_neg q, shN hc (nI 17 &&& nI 31) 17 (by decide)]
    obtain ⟨b, b1, b2, b3⟩ := between_ok (M := M) (c := c / 2 ^ 17) (by omega)
    rw [b3, Option.bind_some]
    dsimp only
    obtain ⟨⟨M1, e1, g1⟩, t2⟩ := c_ty (q := b) hA h b2 (by omega)
    rw [e1, Option.bind_some]
    dsimp only
    rw [if_pos (posN (by omega)), shN hc (nI 11 &&& nI 31) 11 (by decide), nI_xor]
    obtain ⟨cs2, ⟨M2, e2, g2⟩, k2, k3, k4⟩ := thing_ok (c := (c / 2 ^ 11) ^^^ 33) (m := m + 1) (xorN (by omega) (by omega)) t2 g1 (Gd_bet hg b1) (by rw [List.length_append]; exact Nat.succ_le_succ hl) (by omega)
    rw [e2, Option.bind_some]
    dsimp only
    rw [if_neg (show ¬ nI 1 = nI 0 by decide)]
    exact ⟨cs2, Ans.zt g2, k2, k3, by omega⟩
theorem ty_38 {M : Mem} {a : Abs} {cs : List Nat} {c d m : Nat} (hc : c < 2147483648) (hd : d = c / 2 ^ 28 % 2) (hA : okA (txA a cs)) (h : RelC M (txA a cs)) (hg : Gd cs false d 1) (hl : cs.length ≤ m) (hm : m < 20) : Ty (f_L_types_38 (nI c) (nI 1) M) a false 0 3 (m + 9) := by
  unfold f_L_types_38 f_L_types_88
  rw [if_neg (show ¬ nI 1 = nI 0 by decide), shN hc (nI 12 &&& nI 31) 12 (by decide)]
  obtain ⟨b, b1, b2, b3⟩ := between_ok (M := M) (c := c / 2 ^ 12) (by omega)
  rw [b3, Option.bind_some]
  dsimp only
  obtain ⟨⟨M1, e1, g1⟩, t2⟩ := c_ty (q := b) hA h b2 (by omega)
  rw [e1, Option.bind_some]
  dsimp only
  rw [if_pos (posN (by omega)), shN hc (nI 5 &&& nI 31) 5 (by decide), nI_xor]
  obtain ⟨cs2, ⟨M2, e2, g2⟩, k2, k3, k4⟩ := thing_ok (c := (c / 2 ^ 5) ^^^ 77) (m := m + 1) (xorN (by omega) (by omega)) t2 g1 (Gd_bet hg b1) (by rw [List.length_append]; exact Nat.succ_le_succ hl) (by omega)
  rw [e2, Option.bind_some]
  dsimp only
  rw [if_neg (show ¬ nI 1 = nI 0 by decide), shN hc (nI 28 &&& nI 31) 28 (by decide), rmN (by omega) (by omega) (by omega)]
  simp (disch := omega) only [neq]
  by_cases q : c / 2 ^ 28 % 2 = 0
  · rw [if_pos q]
    rw [hd, q] at k3
    obtain ⟨cs3, p1, p2, p3, p4⟩ := ty_93 (m := m + 4) hc k2 g2 k3 k4 (by omega)
    exact ⟨cs3, p1, p2, p3, by omega⟩
  · rw [if_neg q]
    have : d = 0 + 1 := by omega
    rw [this] at k3
    obtain ⟨⟨M3, e3, g3⟩, t3⟩ := c_ty (q := 41) k2 g2 (by omega) (by omega)
    rw [e3, Option.bind_some]
    dsimp only
    rw [if_pos (posN (by omega))]
    obtain ⟨cs3, p1, p2, p3, p4⟩ := ty_93 (m := m + 5) hc t3 g3 (Gd_close k3) (by rw [List.length_append]; exact Nat.succ_le_succ k4) (by omega)
    exact ⟨cs3, p1, p2, p3, by omega⟩
theorem ty_25 {M : Mem} {a : Abs} {cs : List Nat} {c d m : Nat} (hc : c < 2147483648) (hd : d = c / 2 ^ 28 % 2) (hA : okA (txA a cs)) (h : RelC M (txA a cs)) (hg : Gd cs true d 0) (hl : cs.length ≤ m) (hm : m < 10) : Ty (f_L_types_25 (nI c) M) a false 0 3 (m + 12) := by
  unfold f_L_types_25
  obtain ⟨cs2, ⟨M2, e2, g2⟩, k2, k3, k4⟩ := thing_ok (m := m) hc hA h hg hl (by omega)
  rw [e2, Option.bind_some]
  dsimp only
  rw [if_neg (show ¬ nI 1 = nI 0 by decide)]
  exact ty_38 (m := m + 3) hc hd k2 g2 k3 k4 (by omega)
theorem types_ok {M : Mem} {a : Abs} {c : Nat} (hc : c < 2147483648) (hA : okA a) (h : RelC M a) : Ty (f_L_types (nI c) M) a false 0 3 20 := by
  have h60 := hA.2.2.2.2.1
  unfold f_L_types
  obtain ⟨M1, e1, g1⟩ := c_clear hA h
  have A1 : okA (txA a []) := ⟨hA.1, hA.2.1, hA.2.2.1, hA.2.2.2.1, Nat.zero_le _, fun c hc => by cases hc⟩
  rw [e1, Option.bind_some]
  dsimp only
  rw [if_neg (neg_n (show a.2.2.2.length < 2147483648 by omega)), shN hc (nI 28 &&& nI 31) 28 (by decide), rmN (by omega) (by omega) (by omega)]
  simp (disch := omega) only [neq]
  by_cases q : c / 2 ^ 28 % 2 = 0
  · rw [if_pos q]
    obtain ⟨cs, p1, p2, p3, p4⟩ := ty_25 (d := 0) (m := 0) hc q.symm A1 g1 Gd_nil (Nat.le_refl _) (by omega)
    exact ⟨cs, p1, p2, p3, by omega⟩
  · rw [if_neg q]
    obtain ⟨⟨M3, e3, g3⟩, t3⟩ := c_ty (q := 40) A1 g1 (by omega) (by show 0 < 60; omega)
    rw [e3, Option.bind_some]
    dsimp only
    rw [if_pos (posN (by show 0 < 1000000; omega))]
    obtain ⟨cs, p1, p2, p3, p4⟩ := ty_25 (d := 0 + 1) (m := 1) hc (by omega) t3 g3 (Gd_open Gd_nil (by omega)) (Nat.le_refl _) (by omega)
    exact ⟨cs, p1, p2, p3, by omega⟩
