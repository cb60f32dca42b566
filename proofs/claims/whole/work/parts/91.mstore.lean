/-! the model: a part of a wish, stored -/
def bw (w p : Nat) : Nat := 112 + 484 * (8 * w + p)
theorem bw_le {w p : Nat} (hw : w < 8) (hp : p < 8) : bw w p + 484 ≤ 31088 := by unfold bw; omega
def ndQ (f : Nat → Int32) (b i : Nat) (L : List T) (t : T) : Prop :=
  f (b + 2 + 3 * i) = nI (kind t - 15) ∧
  (kind t < 20 → ∃ x y, x < 16 + i ∧ y < 16 + i ∧ f (b + 2 + 3 * i + 1) = nI x ∧ f (b + 2 + 3 * i + 2) = nI y ∧ kids t = prs (kind t) (dn L x) (dn L y) ∧ (kind t < 18 → y = 0)) ∧
  (20 ≤ kind t → f (b + 2 + 3 * i + 1) = nI (lsum L i) ∧ f (b + 2 + 3 * i + 2) = nI (nkid t) ∧ ∃ r : Nat → Nat, ∀ j (hj : j < nkid t), r j < 16 + i ∧ f (b + 362 + lsum L i + j) = nI (r j) ∧ dn L (r j) = (kids t)[j])
def PR (f : Nat → Int32) (b : Nat) (t : T) : Prop := ∃ L : List T, okT L ∧ (∀ x ∈ L, x ∈ subl t) ∧ (∃ id, id < 16 + L.length ∧ f b = nI id ∧ dn L id = t) ∧ f (b + 1) = nI L.length ∧ ∀ i (h : i < L.length), ndQ f b i L L[i]
theorem sub_cap {L : List T} {t : T} (hok : okT L) (hs : ∀ x ∈ L, x ∈ subl t) (h : size t ≤ 120) : L.length ≤ 120 ∧ lsum L L.length ≤ 119 := by
  obtain ⟨a, b, -, -⟩ := sub_room h hok hs 0 (Nat.zero_le _)
  have := lsum_le L
  exact ⟨a, by omega⟩
theorem ndQ.mv {f f' : Nat → Int32} {b i : Nat} {L L' : List T} {t : T} (h : ndQ f b i L t) (hL : ∀ x, x < 16 + i → dn L' x = dn L x) (hls : lsum L' i = lsum L i) (h1 : ∀ j, j ≤ 2 → f' (b + 2 + 3 * i + j) = f (b + 2 + 3 * i + j)) (h2 : 20 ≤ kind t → ∀ j, j < nkid t → f' (b + 362 + lsum L i + j) = f (b + 362 + lsum L i + j)) : ndQ f' b i L' t := by
  obtain ⟨a1, a2, a3⟩ := h
  have z0 := h1 0 (by omega)
  have z1 := h1 1 (by omega)
  have z2 := h1 2 (by omega)
  refine ⟨by rw [Nat.add_zero] at z0; rw [z0]; exact a1, fun hk => ?_, fun hk => ?_⟩
  · obtain ⟨x, y, p1, p2, p3, p4, p5, p6⟩ := a2 hk
    exact ⟨x, y, p1, p2, by rw [z1]; exact p3, by rw [z2]; exact p4, by rw [hL x p1, hL y p2]; exact p5, p6⟩
  · obtain ⟨p1, p2, r, p3⟩ := a3 hk
    refine ⟨by rw [z1, hls]; exact p1, by rw [z2]; exact p2, r, fun j hj => ?_⟩
    obtain ⟨r1, r2, r3⟩ := p3 j hj
    exact ⟨r1, by rw [hls, h2 hk j hj]; exact r2, by rw [hL _ r1]; exact r3⟩
theorem PR.congr {f f' : Nat → Int32} {b : Nat} {t : T} (h : PR f b t) (hs : size t ≤ 120) (hf : ∀ i, b ≤ i → i < b + 484 → f' i = f i) : PR f' b t := by
  obtain ⟨L, a1, a2, ⟨id, b1, b2, b3⟩, a4, a5⟩ := h
  obtain ⟨c1, c2⟩ := sub_cap a1 a2 hs
  refine ⟨L, a1, a2, ⟨id, b1, by rw [hf b (by omega) (by omega)]; exact b2, b3⟩, by rw [hf (b + 1) (by omega) (by omega)]; exact a4, fun i hi => (a5 i hi).mv (fun _ _ => rfl) rfl (fun j hj => hf _ (by omega) (by omega)) (fun hk j hj => ?_)⟩
  have h3 := lsum_succ hi
  have h4 := lsum_mono (tb := L) (i := i + 1) (j := L.length) (by omega)
  have h6 : lw L[i] = nkid L[i] := if_pos hk
  exact hf _ (by omega) (by omega)
theorem PR_root {f : Nat → Int32} {b : Nat} {t : T} (h : PR f b t) (hs : size t ≤ 120) {i : Nat} (hi : i < 16) : (f b = nI i) = (t = lf i) := by
  obtain ⟨L, a1, a2, ⟨id, b1, b2, b3⟩, -, -⟩ := h
  obtain ⟨c1, -⟩ := sub_cap a1 a2 hs
  rw [b2, neq (by omega) (by omega)] 
  apply propext
  constructor
  · intro e
    rw [← b3, e, dn_lf hi]
  · intro e
    exact dn_inj a1 b1 (by omega) (by rw [b3, e, dn_lf hi])
theorem cell_ok (w p k : Nat) (M : Mem) : f_X7_cell (nI w) (nI p) (nI k) M = some (nI (bw w p + k), M) := by
  unfold f_X7_cell bw
  simp only [nmul, nI_add]
theorem bw_pos (w p : Nat) : 112 ≤ bw w p := by unfold bw; omega
/-- the locals so far -/
def SI (M : Mem) (tb L : List T) (t : T) (b k : Nat) : Prop := okT L ∧ (∀ x ∈ L, x ∈ subl t) ∧ (∀ x ∈ L, ∃ i, i < k ∧ dn tb i = x) ∧ (∀ i, i < k → (i < 16 ∨ dn tb i ∈ subl t) → ∃ y, y < 16 + L.length ∧ M 227 i = nI y ∧ dn L y = dn tb i) ∧ ∀ i (h : i < L.length), ndQ (M 219) b i L L[i]
def FS (M M' : Mem) (b : Nat) : Prop := (∀ c, c ≠ 219 → c ≠ 227 → c ≠ 228 → M' c = M c) ∧ ∀ i, i < b ∨ b + 484 ≤ i → M' 219 i = M 219 i
theorem FS.rfl' (M : Mem) (b : Nat) : FS M M b := ⟨fun _ _ _ _ => rfl, fun _ _ => rfl⟩
theorem FS.tr {A B C : Mem} {b : Nat} (h : FS A B b) (g : FS B C b) : FS A C b := ⟨fun c p q r => by rw [g.1 c p q r, h.1 c p q r], fun i hi => by rw [g.2 i hi, h.2 i hi]⟩
theorem MT.fs {M M' : Mem} {tb : List T} {b : Nat} (h : MT M tb) (f : FS M M' b) : MT M' tb := h.congr (fun c _ _ => f.1 c (by omega) (by omega) (by omega)) (f.1 229 (by omega) (by omega) (by omega)) (by rw [f.1 218 (by omega) (by omega) (by omega)]) (by rw [f.1 218 (by omega) (by omega) (by omega)])
/-- the list's copying -/
theorem store_178 {k41 : Int32 → Int32 → Int32 → Int32 → Int32 → Int32 → Mem → Option Rv} {w p : Nat} {x3 : Int32} {x4 ls k s nk v22 : Nat} {ki r : Nat → Nat} (hb : bw w p + 484 ≤ 31088) (hk : k < 8000) (hls : ls + nk ≤ 120) (hs : s + nk ≤ 80000) (hv : 5 ≤ v22) (hv2 : v22 < 100) (M0 : Mem) (h222 : M0 222 k = nI v22) (h223 : M0 223 k = nI s) (h224 : M0 224 k = nI nk) (h229 : ∀ j, j < nk → ki j < 8000 ∧ M0 229 (s + j) = nI (ki j) ∧ M0 227 (ki j) = nI (r j)) :
    ∀ (n j : Nat) (M : Mem), j ≤ nk → nk - j < n → (∀ c, c ≠ 219 → M c = M0 c) → (∀ i, i < bw w p + 362 + ls ∨ bw w p + 362 + ls + j ≤ i → M 219 i = M0 219 i) → (∀ i, i < j → M 219 (bw w p + 362 + ls + i) = nI (r i)) →
    ∃ M', f_X7_store_178 k41 n (nI w) (nI p) x3 (nI x4) (nI (ls + j)) (nI k) (nI j) M = k41 (nI w) (nI p) x3 (nI (x4 + 1)) (nI (ls + nk)) (nI (k + 1)) M' ∧ (∀ c, c ≠ 219 → M' c = M0 c) ∧ (∀ i, i < bw w p + 362 + ls ∨ bw w p + 362 + ls + nk ≤ i → M' 219 i = M0 219 i) ∧ ∀ i, i < nk → M' 219 (bw w p + 362 + ls + i) = nI (r i) := by
  intro n
  induction n with
  | zero => intro j M _ h; omega
  | succ n ih =>
    intro j M h1 h2 h3 h4 h5
    rw [f_X7_store_178]
    unfold f_X7_store_246 f_X7_store_249
    rw [mrd_n hk (by omega), Option.bind_some, h3 224 (by omega), h224]
    by_cases hj : j < nk
    · obtain ⟨a1, a2, a3⟩ := h229 j hj
      rw [if_pos ((nlt (by omega) (by omega)).mpr hj), mrd_n hk (by omega), Option.bind_some, h3 222 (by omega), h222, if_neg (fun q => by have := (nlt (by omega) (by omega)).mp q; omega)]
      rw [nI_add, cell_ok, Option.bind_some]
      dsimp only
      rw [mrd_n hk (by omega), Option.bind_some, h3 223 (by omega), h223, nI_add, mrd_n (by omega) (by omega), Option.bind_some, h3 229 (by omega), a2, mrd_n a1 (by omega), Option.bind_some, h3 227 (by omega), a3, mst_n (by omega) (by omega), Option.bind_some, nI_add, nI_add]
      have e : bw w p + (362 + (ls + j)) = bw w p + 362 + ls + j := by omega
      rw [e, show ls + j + 1 = ls + (j + 1) by omega]
      refine ih (j + 1) _ (by omega) (by omega) (fun c hc => by rw [mwr_ne _ _ _ hc, h3 c hc]) (fun i hi => by rw [mwr_in _ (by omega), h4 i (by omega)]) (fun i hi => ?_)
      by_cases q : i = j
      · subst q; rw [mwr_at]
      · rw [mwr_in _ (by omega), h5 i (by omega)]
    · have : j = nk := by omega
      subst this
      rw [if_neg (fun q => hj ((nlt (by omega) (by omega)).mp q)), nI_add, nI_add]
      exact ⟨M, rfl, h3, h4, h5⟩
theorem store_step {M : Mem} {tb L : List T} {form w p k : Nat} (h : MT M tb) (hw : w < 8) (hp : p < 8) (hf : form < 16 + tb.length) (hsz : size (dn tb form) ≤ 120) (h16 : 16 ≤ k) (hkf : k ≤ form) (hI : SI M tb L (dn tb form) (bw w p) k) (hm : dn tb k ∈ subl (dn tb form)) (h228 : M 228 k = nI 1) (n : Nat) :
    ∃ M', f_X7_store_41 (n + 1) (nI w) (nI p) (nI form) (nI (16 + L.length)) (nI (lsum L L.length)) (nI k) M = f_X7_store_41 n (nI w) (nI p) (nI form) (nI (16 + (L ++ [dn tb k]).length)) (nI (lsum (L ++ [dn tb k]) (L ++ [dn tb k]).length)) (nI (k + 1)) M' ∧ SI M' tb (L ++ [dn tb k]) (dn tb form) (bw w p) (k + 1) ∧ M' 228 = M 228 ∧ FS M M' (bw w p) := by
  obtain ⟨i1, i2, i3, i4, i5⟩ := hI
  have hl := h.2.1
  have hbw := bw_le hw hp
  have hbp := bw_pos w p
  have hk : k < 16 + tb.length := by omega
  have hnew : dn tb k ∉ L := fun hin => by
    obtain ⟨i, hi, e⟩ := i3 _ hin
    have := dn_inj h.1 (by omega) hk e
    omega
  have hA := MT_AR h hk
  have hAl := AR_le hA
  have hk16 := (dn_kind h.1 hk).2 h16
  have aa := (h.2.2.2.2.2.1 k hk).1
  have hokL : okT (L ++ [dn tb k]) := ⟨by
    rw [List.nodup_append]
    refine ⟨i1.1, by simp, fun x hx y hy => ?_⟩
    rw [List.mem_singleton.mp hy]
    exact fun q => hnew (q ▸ hx), fun x hx => by
    rcases List.mem_append.mp hx with hx | hx
    · exact i1.2 x hx
    · rw [List.mem_singleton.mp hx]; exact ⟨hA, hk16⟩⟩
  have hsubL : ∀ x ∈ L ++ [dn tb k], x ∈ subl (dn tb form) := fun x hx => by
    rcases List.mem_append.mp hx with hx | hx
    · exact i2 x hx
    · rw [List.mem_singleton.mp hx]; exact hm
  obtain ⟨c1, c2⟩ := sub_cap hokL hsubL hsz
  have hlL : (L ++ [dn tb k]).length = L.length + 1 := by simp
  rw [lsum_snoc] at c2
  rw [hlL] at c1
  obtain ⟨n1, n2⟩ := MT_node h h16 hk
  have hsub : ∀ y ∈ kids (dn tb k), y ∈ subl (dn tb form) := fun y hy => subl_kid hm hy
  rw [f_X7_store_41]
  unfold f_X7_store_249
  have hfk : ¬ nI form < nI k := fun q => by have := (nlt (by omega) (by omega)).mp q; omega
  rw [if_neg hfk, mrd_n (by omega) (by omega), Option.bind_some, h228, if_neg (by decide), nsub (by omega), nmul, nI_add, cell_ok, Option.bind_some]
  have eat : bw w p + (2 + 3 * (16 + L.length - 16)) = bw w p + 2 + 3 * L.length := by omega
  rw [eat]
  dsimp only
  generalize hat : bw w p + 2 + 3 * L.length = at'
  rw [mst_n (by omega) (by omega), Option.bind_some, mrd_n (by omega) (by omega), Option.bind_some, mwr_off _ _ _ (show (222 : Nat) ≠ 227 by omega), aa, mst_n (by omega) (by omega), Option.bind_some, mrd_n (by omega) (by omega), Option.bind_some, mwr_off _ _ _ (show (222 : Nat) ≠ 219 by omega), mwr_off _ _ _ (show (222 : Nat) ≠ 227 by omega), aa]
  -- the new state of the locals, out of what was written
  have close : ∀ (M' : Mem), (∀ c, c ≠ 219 → c ≠ 227 → M' c = M c) → (∀ i, i < k → M' 227 i = M 227 i) → M' 227 k = nI (16 + L.length) → (∀ i, i < bw w p ∨ bw w p + 484 ≤ i → M' 219 i = M 219 i) → (∀ i, i < L.length → ∀ j, j ≤ 2 → M' 219 (bw w p + 2 + 3 * i + j) = M 219 (bw w p + 2 + 3 * i + j)) → (∀ i, i < lsum L L.length → M' 219 (bw w p + 362 + i) = M 219 (bw w p + 362 + i)) → ndQ (M' 219) (bw w p) L.length (L ++ [dn tb k]) (dn tb k) →
      SI M' tb (L ++ [dn tb k]) (dn tb form) (bw w p) (k + 1) ∧ M' 228 = M 228 ∧ FS M M' (bw w p) := by
    intro M' f1 f2 f3 f4 f5 f6 f7
    refine ⟨⟨hokL, hsubL, fun x hx => ?_, fun i hi hs => ?_, fun i hi => ?_⟩, f1 228 (by omega) (by omega), fun c q1 q2 _ => f1 c q1 q2, f4⟩
    · rcases List.mem_append.mp hx with hx | hx
      · obtain ⟨i, hi, e⟩ := i3 x hx
        exact ⟨i, by omega, e⟩
      · exact ⟨k, by omega, (List.mem_singleton.mp hx).symm⟩
    · by_cases q : i = k
      · subst q
        exact ⟨16 + L.length, by omega, f3, dn_last⟩
      · obtain ⟨y, y1, y2, y3⟩ := i4 i (by omega) hs
        exact ⟨y, by omega, by rw [f2 i (by omega)]; exact y2, by rw [dn_snoc y1]; exact y3⟩
    · rw [hlL] at hi
      by_cases q : i < L.length
      · rw [List.getElem_append_left q]
        refine (i5 i q).mv (fun x hx => dn_snoc (by omega)) (lsum_app (by omega)) (f5 i q) (fun hk2 j hj => ?_)
        have h3 := lsum_succ q
        have h4 := lsum_mono (tb := L) (i := i + 1) (j := L.length) (by omega)
        have h6 : lw L[i] = nkid L[i] := if_pos hk2
        have := f6 (lsum L i + j) (by omega)
        rw [← Nat.add_assoc] at this
        exact this
      · have : i = L.length := by omega
        subst this
        rw [List.getElem_concat_length (by rfl)]
        exact f7
  rw [lsum_snoc, hlL]
  by_cases k20 : kind (dn tb k) < 20
  · obtain ⟨a, b, ha, hb, q1, q2, q3, q4⟩ := n1 k20
    have hab : ∀ z, z = a ∨ z = b → ∃ y, y < 16 + L.length ∧ M 227 z = nI y ∧ dn L y = dn tb z := fun z hz => by
      refine i4 z (by omega) ?_
      by_cases q : z < 16
      · exact Or.inl q
      · refine Or.inr (hsub _ ?_)
        rw [q3]
        unfold prs
        split
        next k18 =>
          have := q4 k18
          rcases hz with rfl | rfl
          · exact List.mem_singleton_self _
          · omega
        · rcases hz with rfl | rfl
          · exact List.mem_cons_self
          · exact List.mem_cons_of_mem _ List.mem_cons_self
    obtain ⟨y0, y0a, y0b, y0c⟩ := hab a (Or.inl rfl)
    obtain ⟨y1, y1a, y1b, y1c⟩ := hab b (Or.inr rfl)
    have hlw : lw (dn tb k) = 0 := if_neg (by omega)
    rw [hlw, Nat.add_zero]
    unfold f_X7_store_132 f_X7_store_174
    have hk5 : nI (kind (dn tb k) - 15) < nI 5 := (nlt (by omega) (by omega)).mpr (by omega)
    rw [if_pos hk5]
    simp (disch := omega) only [mrd_n, Option.bind_some, mwr_off, mwr_in, q1, q2, y0b, y1b, nI_add, mst_n, aa]
    rw [if_pos hk5]
    unfold fuelN
    rw [f_X7_store_178]
    unfold f_X7_store_246 f_X7_store_249
    simp (disch := omega) only [mrd_n, Option.bind_some, mwr_off, q2, aa]
    rw [if_pos hk5]
    simp only [ite_self, nI_add]
    refine ⟨_, rfl, close _ (fun c p1 p2 => ?_) (fun i hi => ?_) ?_ (fun i hi => ?_) (fun i hi j hj => ?_) (fun i hi => ?_) ⟨?_, fun _ => ⟨y0, y1, by omega, by omega, ?_, ?_, ?_, fun q => ?_⟩, fun q => by omega⟩⟩
    · rw [mwr_ne _ _ _ p1, mwr_ne _ _ _ p1, mwr_ne _ _ _ p1, mwr_ne _ _ _ p2]
    · rw [mwr_off _ _ _ (by omega), mwr_off _ _ _ (by omega), mwr_off _ _ _ (by omega), mwr_in _ (by omega)]
    · rw [mwr_off _ _ _ (by omega), mwr_off _ _ _ (by omega), mwr_off _ _ _ (by omega), mwr_at]
    · rw [mwr_in _ (by omega), mwr_in _ (by omega), mwr_in _ (by omega), mwr_off _ _ _ (by omega)]
    · rw [mwr_in _ (by omega), mwr_in _ (by omega), mwr_in _ (by omega), mwr_off _ _ _ (by omega)]
    · rw [mwr_in _ (by omega), mwr_in _ (by omega), mwr_in _ (by omega), mwr_off _ _ _ (by omega)]
    · rw [hat, mwr_in _ (by omega), mwr_in _ (by omega), mwr_at]
    · rw [hat, mwr_in _ (by omega), mwr_at]
    · rw [hat, mwr_at]
    · rw [dn_snoc y0a, dn_snoc y1a, y0c, y1c]
      exact q3
    · have e := q4 q
      rw [e, dn_lf (show 0 < 16 by omega)] at y1c
      exact dn_inj i1 y1a (by omega) (by rw [y1c, dn_lf (show 0 < 16 by omega)])
  · obtain ⟨s, hs, q1, q2, ki, q3⟩ := n2 (by omega)
    have hlw : lw (dn tb k) = nkid (dn tb k) := if_pos (by omega)
    rw [hlw] at c2 ⊢
    have hk5 : ¬ nI (kind (dn tb k) - 15) < nI 5 := fun q => by have := (nlt (by omega) (by omega)).mp q; omega
    rw [if_neg hk5]
    unfold f_X7_store_132 f_X7_store_174
    simp (disch := omega) only [mrd_n, Option.bind_some, mwr_off, q2, nI_add, mst_n, aa]
    rw [if_neg hk5]
    have hbec : ∀ j (hj : j < nkid (dn tb k)), ∃ y, y < 16 + L.length ∧ M 227 (ki j) = nI y ∧ dn L y = (kids (dn tb k))[j] := fun j hj => by
      obtain ⟨k1, k2, k3⟩ := q3 j hj
      obtain ⟨y, y1, y2, y3⟩ := i4 (ki j) k1 (Or.inr (hsub _ (by rw [k3]; exact List.getElem_mem _)))
      exact ⟨y, y1, y2, by rw [y3, k3]⟩
    have hch : ∀ j, ∃ y, ∀ hj : j < nkid (dn tb k), y < 16 + L.length ∧ M 227 (ki j) = nI y ∧ dn L y = (kids (dn tb k))[j] := fun j => by
      by_cases hj : j < nkid (dn tb k)
      · obtain ⟨y, q⟩ := hbec j hj
        exact ⟨y, fun _ => q⟩
      · exact ⟨0, fun q => absurd q hj⟩
    have hrr : ∃ r : Nat → Nat, ∀ j (hj : j < nkid (dn tb k)), r j < 16 + L.length ∧ M 227 (ki j) = nI (r j) ∧ dn L (r j) = (kids (dn tb k))[j] := ⟨fun j => Classical.choose (hch j), fun j hj => Classical.choose_spec (hch j) hj⟩
    obtain ⟨r, hr⟩ := hrr
    generalize hM1 : mwr (mwr (mwr (mwr M 227 k (nI (16 + L.length))) 219 at' (nI (kind (dn tb k) - 15))) 219 (at' + 1) (nI (lsum L L.length))) 219 (at' + 2) (nI (nkid (dn tb k))) = M1
    have far : ∀ c, c ≠ 219 → c ≠ 227 → M1 c = M c := fun c p1 p2 => by rw [← hM1, mwr_ne _ _ _ p1, mwr_ne _ _ _ p1, mwr_ne _ _ _ p1, mwr_ne _ _ _ p2]
    have f227 : ∀ i, i ≠ k → M1 227 i = M 227 i := fun i hi => by rw [← hM1, mwr_off _ _ _ (by omega), mwr_off _ _ _ (by omega), mwr_off _ _ _ (by omega), mwr_in _ hi]
    obtain ⟨M', e1, g1, g2, g3⟩ := store_178 (k41 := f_X7_store_41 n) (w := w) (p := p) (x3 := nI form) (x4 := 16 + L.length) (ls := lsum L L.length) (k := k) (s := s) (nk := nkid (dn tb k)) (v22 := kind (dn tb k) - 15) (ki := ki) (r := r) (by omega) (by omega) (by omega) hs (by omega) (by omega) M1 (by rw [far 222 (by omega) (by omega)]; exact aa) (by rw [far 223 (by omega) (by omega)]; exact q1) (by rw [far 224 (by omega) (by omega)]; exact q2) (fun j hj => by
      obtain ⟨k1, k2, k3⟩ := q3 j hj
      refine ⟨by omega, by rw [far 229 (by omega) (by omega)]; exact k2, by rw [f227 _ (by omega)]; exact (hr j hj).2.1⟩) fuelN 0 M1 (Nat.zero_le _) (by unfold fuelN; omega) (fun _ _ => rfl) (fun _ _ => rfl) (fun i hi => by omega)
    rw [Nat.add_zero] at e1
    rw [e1]
    have z219 : ∀ i, i ≠ at' → i ≠ at' + 1 → i ≠ at' + 2 → M1 219 i = M 219 i := fun i p1 p2 p3 => by rw [← hM1, mwr_in _ p3, mwr_in _ p2, mwr_in _ p1, mwr_off _ _ _ (by omega)]
    refine ⟨M', rfl, close M' (fun c p1 p2 => by rw [g1 c p1, far c p1 p2]) (fun i hi => by rw [g1 227 (by omega), f227 i (by omega)]) ?_ (fun i hi => ?_) (fun i hi j hj => ?_) (fun i hi => ?_) ⟨?_, fun q => by omega, fun _ => ⟨?_, ?_, r, fun j hj => ?_⟩⟩⟩
    · rw [g1 227 (by omega), ← hM1, mwr_off _ _ _ (by omega), mwr_off _ _ _ (by omega), mwr_off _ _ _ (by omega), mwr_at]
    · rw [g2 i (by omega), z219 i (by omega) (by omega) (by omega)]
    · rw [g2 _ (by omega), z219 _ (by omega) (by omega) (by omega)]
    · rw [g2 _ (by omega), z219 _ (by omega) (by omega) (by omega)]
    · rw [hat, g2 _ (by omega), ← hM1, mwr_in _ (by omega), mwr_in _ (by omega), mwr_at]
    · rw [hat, g2 _ (by omega), ← hM1, mwr_in _ (by omega), mwr_at, lsum_app (Nat.le_refl _)]
    · rw [hat, g2 _ (by omega), ← hM1, mwr_at]
    · obtain ⟨r1, r2, r3⟩ := hr j hj
      exact ⟨r1, by rw [lsum_app (Nat.le_refl _)]; exact g3 j hj, by rw [dn_snoc r1]; exact r3⟩
theorem store_41 {tb : List T} {form w p : Nat} (hw : w < 8) (hp : p < 8) (hf : form < 16 + tb.length) (hsz : size (dn tb form) ≤ 120) :
    ∀ (n k : Nat) (M : Mem) (L : List T), MT M tb → 16 ≤ k → (k ≤ form + 1 ∨ k = 16) → form + 17 - k < n → SI M tb L (dn tb form) (bw w p) k → MK M form (fun j => dn tb j ∈ subl (dn tb form)) → ∃ M', f_X7_store_41 n (nI w) (nI p) (nI form) (nI (16 + L.length)) (nI (lsum L L.length)) (nI k) M = some (nI 0, M') ∧ MT M' tb ∧ PR (M' 219) (bw w p) (dn tb form) ∧ FS M M' (bw w p) := by
  intro n
  induction n with
  | zero => intro k M L _ _ _ h; omega
  | succ n ih =>
    intro k M L h h16 hk2 hn hI hm
    have hl := h.2.1
    have hbw := bw_le hw hp
    by_cases hkf : k ≤ form
    · by_cases hs : dn tb k ∈ subl (dn tb form)
      · obtain ⟨M1, e1, I1, m1, f1⟩ := store_step h hw hp hf hsz h16 hkf hI hs ((hm k (Or.inr hkf)).1 hs) n
        obtain ⟨M', e2, g2, p2, f2⟩ := ih (k + 1) M1 (L ++ [dn tb k]) (h.fs f1) (by omega) (by omega) (by omega) I1 (fun j hj => by rw [m1]; exact hm j hj)
        exact ⟨M', by rw [e1, e2], g2, p2, f1.tr f2⟩
      · rw [f_X7_store_41]
        unfold f_X7_store_249
        rw [if_neg (fun q => by have := (nlt (by omega) (by omega)).mp q; omega), mrd_n (by omega) (by omega), Option.bind_some, (hm k (Or.inr hkf)).2 hs, if_pos rfl, nI_add]
        obtain ⟨i1, i2, i3, i4, i5⟩ := hI
        exact ih (k + 1) M L h (by omega) (by omega) (by omega) ⟨i1, i2, fun x hx => by
          obtain ⟨i, a, b⟩ := i3 x hx
          exact ⟨i, by omega, b⟩, fun i hi hq => by
          by_cases q : i = k
          · subst q
            rcases hq with hq | hq
            · omega
            · exact absurd hq hs
          · exact i4 i (by omega) hq, i5⟩ hm
    · obtain ⟨i1, i2, i3, i4, i5⟩ := hI
      obtain ⟨y, y1, y2, y3⟩ := i4 form (by omega) (Or.inr (subl_self _))
      obtain ⟨c1, c2⟩ := sub_cap i1 i2 hsz
      rw [f_X7_store_41, if_pos ((nlt (by omega) (by omega)).mpr (by omega)), cell_ok, Option.bind_some]
      dsimp only
      rw [mrd_n (by omega) (by omega), Option.bind_some, y2, mst_n (by omega) (by omega), Option.bind_some, cell_ok, Option.bind_some]
      dsimp only
      rw [nsub (by omega), mst_n (by omega) (by omega), Option.bind_some]
      have f : FS M (mwr (mwr M 219 (bw w p + 0) (nI y)) 219 (bw w p + 1) (nI (16 + L.length - 16))) (bw w p) := ⟨fun c a _ _ => by rw [mwr_ne _ _ _ a, mwr_ne _ _ _ a], fun i hi => by rw [mwr_in _ (by omega), mwr_in _ (by omega)]⟩
      refine ⟨_, rfl, h.fs f, ⟨L, i1, i2, ⟨y, y1, ?_, y3⟩, ?_, fun i hi => (i5 i hi).mv (fun _ _ => rfl) rfl (fun j hj => ?_) (fun _ j hj => ?_)⟩, f⟩
      · rw [mwr_in _ (by omega), Nat.add_zero, mwr_at]
      · rw [mwr_at]
        congr 1
        omega
      · rw [mwr_in _ (by omega), mwr_in _ (by omega)]
      · rw [mwr_in _ (by omega), mwr_in _ (by omega)]
theorem store_15 {tb : List T} {form w p : Nat} (hw : w < 8) (hp : p < 8) (hf : form < 16 + tb.length) (hsz : size (dn tb form) ≤ 120) :
    ∀ (n k : Nat) (M : Mem), MT M tb → k ≤ 16 → 16 - k < n → (∀ i, i < k → M 227 i = nI i) → MK M form (fun j => dn tb j ∈ subl (dn tb form)) → ∃ M', f_X7_store_15 n (nI w) (nI p) (nI form) (nI 16) (nI 0) (nI k) M = some (nI 0, M') ∧ MT M' tb ∧ PR (M' 219) (bw w p) (dn tb form) ∧ FS M M' (bw w p) := by
  intro n
  induction n with
  | zero => intro k M _ _ h; omega
  | succ n ih =>
    intro k M h h1 h2 h3 hm
    have hl := h.2.1
    rw [f_X7_store_15]
    by_cases hk : k < 16
    · rw [if_pos ((nlt (by omega) (by omega)).mpr hk), mst_n (by omega) (by omega), Option.bind_some, nI_add]
      obtain ⟨M', e, g, q, f⟩ := ih (k + 1) (mwr M 227 k (nI k)) (h.fb227 k _) (by omega) (by omega) (fun i hi => by
        by_cases q : i = k
        · subst q; exact mwr_at _ _ _ _
        · rw [mwr_in _ q]; exact h3 i (by omega)) (fun j hj => by rw [mwr_off _ _ _ (by omega)]; exact hm j hj)
      exact ⟨M', e, g, q, FS.tr ⟨fun c a b d => mwr_ne _ _ _ b, fun i _ => mwr_off _ _ _ (by omega)⟩ f⟩
    · rw [if_neg (fun q => hk ((nlt (by omega) (by omega)).mp q))]
      exact store_41 hw hp hf hsz fuelN 16 M [] h (Nat.le_refl _) (Or.inr rfl) (by unfold fuelN; omega) ⟨⟨by simp, fun _ hx => by cases hx⟩, (fun _ hx => by cases hx), (fun _ hx => by cases hx), (fun i hi _ => ⟨i, by omega, h3 i (by omega), by rw [dn_lf hi, dn_lf hi]⟩), fun i hi => by simp at hi⟩ hm
theorem store_ok {M : Mem} {tb : List T} (h : MT M tb) {form w p : Nat} (hw : w < 8) (hp : p < 8) (hf : form < 16 + tb.length) (hsz : size (dn tb form) ≤ 120) : ∃ M', f_X7_store (nI w) (nI p) (nI form) M = some (nI 0, M') ∧ MT M' tb ∧ PR (M' 219) (bw w p) (dn tb form) ∧ FS M M' (bw w p) := by
  unfold f_X7_store
  obtain ⟨M1, e1, f1, g1, o1⟩ := mark_ok h hf
  rw [e1, Option.bind_some]
  obtain ⟨M', e2, g2, p2, f2⟩ := store_15 hw hp hf hsz fuelN 0 M1 f1 (by omega) (by unfold fuelN; omega) (fun i hi => by omega) g1
  exact ⟨M', e2, g2, p2, FS.tr ⟨fun c a b d => o1 c d, fun i _ => by rw [o1 219 (by omega)]⟩ f2⟩
