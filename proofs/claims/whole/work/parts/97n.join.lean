/-! join() -/
def bgP (x : T) : Bool := decide (120 < size x)
def jt (id : Nat) (f : Int32) (M : Mem) : Option Rv := (mrd M 219 31088 (nI 2)).bind fun v3 => if v3 = (nI 8) then some ((-3), M) else if f = (nI 0) then ((f_X7_record M).bind fun q6 => (f_X7_comes (nI id) q6.2).bind fun q7 => some (q7.1, q7.2)) else some ((-3), M)
theorem its1_short (t : T) (hsz : size t < 1000000) : (its1 20 t).length < 1000000 := by
  have h1 := wdt_le 20 t
  rw [← its1_len] at h1
  omega
theorem mj_86 {M : Mem} {tb : List T} {id : Nat} {t : T} (hF : MT M tb) (hid : id < 16 + tb.length) (hd : dn tb id = t) (hsz : size t < 1000000) : ∀ (n p : Nat) (b : Bool), p ≤ (its1 20 t).length → (its1 20 t).length - p < n → f_X7_join_86 n (nI id) (bI b) (nI p) M = jt id (bI (b || ((its1 20 t).drop p).any bgP)) M := by
  have hlen := its1_short t hsz
  intro n
  induction n with
  | zero => intro p b _ h; omega
  | succ n ih =>
    intro p b h1 h2
    rw [f_X7_join_86, partMany_ok hF hid hd, Option.bind_some]
    unfold f_X7_join_120 f_X7_join_125 f_X7_join_149
    dsimp only
    by_cases hp : p < (its1 20 t).length
    · have hmem := List.getElem_mem hp
      have hps := its1_size hmem
      obtain ⟨y, e1, y1, y2⟩ := partForm_ok hF hid hd hp
      have aa := (hF.2.2.2.2.2.1 y y1).2.1
      have hl := hF.2.1
      rw [if_pos ((nlt (by omega) (by omega)).mpr hp), nI_add, List.drop_eq_getElem_cons hp, List.any_cons]
      simp only [bI_0']
      cases b with
      | true =>
        rw [if_neg (by decide)]
        have := ih (p + 1) true (by omega) (by omega)
        rw [Bool.true_or] at this ⊢
        exact this
      | false =>
        rw [if_pos rfl, e1, Option.bind_some]
        dsimp only
        rw [mrd_n (by omega) (by omega), Option.bind_some, aa, y2, Bool.false_or]
        by_cases q : 120 < size (its1 20 t)[p]
        · have hb : bgP (its1 20 t)[p] = true := decide_eq_true q
          rw [if_pos ((nlt (by omega) (by omega)).mpr q), hb]
          exact ih (p + 1) true (by omega) (by omega)
        · have hb : bgP (its1 20 t)[p] = false := decide_eq_false q
          rw [if_neg (fun z => q ((nlt (by omega) (by omega)).mp z)), hb]
          exact ih (p + 1) false (by omega) (by omega)
    · have : p = (its1 20 t).length := by omega
      subst this
      rw [if_neg (fun q => hp ((nlt (by omega) (by omega)).mp q)), List.drop_length, List.any_nil, Bool.or_false]
      rfl
def bdP (t : T) : Bool := decide (8 < (its1 20 t).length) || (its1 20 t).any bgP
theorem bdP_ok (t : T) : bdP t = false ↔ okPt t := by
  unfold bdP okPt
  rw [Bool.or_eq_false_iff, decide_eq_false_iff_not, List.any_eq_false]
  constructor
  · intro ⟨h1, h2⟩
    refine ⟨by omega, fun x hx => ?_⟩
    have := h2 x hx
    have h3 : ¬ 120 < size x := fun q => this (decide_eq_true q)
    omega
  · intro ⟨h1, h2⟩
    refine ⟨by omega, fun x hx => ?_⟩
    have := h2 x hx
    exact fun q => by have := of_decide_eq_true q; omega
theorem unv_l {l1 l2 : List T} : (∀ t ∈ l1, ∀ x ∈ subl t, x ∈ unv l1 l2) ∧ joinT 20 l1 ∈ unv l1 l2 ∧ (∀ t ∈ l2, ∀ x ∈ subl t, x ∈ unv l1 l2) ∧ joinT 20 l2 ∈ unv l1 l2 := by
  unfold unv
  refine ⟨fun t ht x hx => List.mem_append.mpr (Or.inl (subs_mem ht hx)), List.mem_append.mpr (Or.inr List.mem_cons_self), fun t ht x hx => List.mem_append.mpr (Or.inr (List.mem_cons_of_mem _ (List.mem_append.mpr (Or.inl (subs_mem ht hx))))), List.mem_append.mpr (Or.inr (List.mem_cons_of_mem _ (List.mem_append.mpr (Or.inr (List.mem_singleton.mpr rfl)))))⟩
theorem two_size {k : Nat} {l1 l2 : List T} (h1 : okP l1) (h2 : okP l2) : size (joinT k [joinT 20 l1, joinT 20 l2]) < 1000000 := by
  have a := joinT_size k [joinT 20 l1, joinT 20 l2]
  have d1 := jT_size (k := 20) h1
  have d2 := jT_size (k := 20) h2
  simp only [List.map_cons, List.map_nil, List.sum_cons, List.sum_nil] at a
  omega
theorem mjoin_ok {MM : Mem} {i j kk v : Nat} {w1 w2 : Wsh} (hk : kk = 20 ∨ kk = 21) (hv : v = kk - 15) (hi : i < 8) (hj : j < 8) (hw1 : okW w1) (hw2 : okW w2) (hR1 : RMw (MM 219) i w1) (hR2 : RMw (MM 219) j w2) : ∃ (id : Nat) (K : Mem) (tb : List T), ((f_X7_empty MM).bind fun q7 => (f_X7_allOf (nI i) q7.2).bind fun q8 => f_X7_join_53 (nI j) q8.1 (nI v) q8.2) = jt id (bI (bdP (joinT kk [joinT 20 (wP w1), joinT 20 (wP w2)]))) K ∧ MT K tb ∧ id < 16 + tb.length ∧ dn tb id = joinT kk [joinT 20 (wP w1), joinT 20 (wP w2)] ∧ FL MM K := by
  subst hv
  have hUl := unv_len hw1.2.2 hw2.2.2
  have hUk := unv_nkid hw1.2.2 hw2.2.2
  obtain ⟨u1, u2, u3, u4⟩ := unv_l (l1 := wP w1) (l2 := wP w2)
  obtain ⟨M1, e1, f1, o1⟩ := empty_ok MM
  rw [e1, Option.bind_some]
  dsimp only
  obtain ⟨a, M2, tc, e2, f2, i2, d2, s2, o2⟩ := mallOf_ok hi hw1 hUl hUk u1 u2 f1 (by rw [o1.1 219 (by omega)]; exact hR1) (fun x hx => by cases hx)
  rw [e2, Option.bind_some]
  unfold f_X7_join_53 f_X7_join_81
  dsimp only
  obtain ⟨b, M3, td, e3, f3, i3, d3, s3, o3⟩ := mallOf_ok hj hw2 hUl hUk u3 u4 f2 (by rw [o2.1 219 (by omega), o1.1 219 (by omega)]; exact hR2) s2
  rw [e3, Option.bind_some]
  dsimp only
  have ia : a < 16 + ([] ++ tc ++ td).length := by rw [List.length_append]; omega
  have da : dn ([] ++ tc ++ td) a = joinT 20 (wP w1) := by rw [dn_app i2]; exact d2
  obtain ⟨r1, r2⟩ := room f3.1 s3 hUl hUk
  have hls := lsum_le ([] ++ tc ++ td)
  have z1 := jT_size (k := 20) hw1.2.2
  have z2 := jT_size (k := 20) hw2.2.2
  have y1 := wdt_le kk (joinT 20 (wP w1))
  have y2 := wdt_le kk (joinT 20 (wP w2))
  obtain ⟨y, M4, te, e4, f4, i4, d4, s4, o4⟩ := both_ok f3 hk ia i3 (by rw [da, d3]; omega) (fun _ => by rw [da, d3]; exact ⟨by omega, by omega⟩)
  rw [da, d3] at d4
  have hsz := two_size (k := kk) hw1.2.2 hw2.2.2
  have hlen := its1_short _ hsz
  rw [e4, Option.bind_some]
  dsimp only
  rw [partMany_ok f4 i4 d4, Option.bind_some]
  dsimp only
  have m86 := fun b => mj_86 f4 i4 d4 hsz fuelN 0 b (Nat.zero_le _) (by unfold fuelN; omega)
  have fin : ∀ b : Bool, b = decide (8 < (its1 20 (joinT kk [joinT 20 (wP w1), joinT 20 (wP w2)])).length) → f_X7_join_86 fuelN (nI y) (bI b) (nI 0) M4 = jt y (bI (bdP (joinT kk [joinT 20 (wP w1), joinT 20 (wP w2)]))) M4 := fun b hb => by
    rw [m86 b, List.drop_zero, hb]; rfl
  refine ⟨y, M4, _, ?_, f4, i4, d4, (((o1.fl).tr o2).tr o3).tr o4.fw.fl⟩
  by_cases q : 8 < (its1 20 (joinT kk [joinT 20 (wP w1), joinT 20 (wP w2)])).length
  · rw [if_pos ((nlt (by omega) (by omega)).mpr q)]
    exact fin true (decide_eq_true q).symm
  · rw [if_neg (fun z => q ((nlt (by omega) (by omega)).mp z))]
    exact fin false (decide_eq_false q).symm
theorem s_join (x y z : Int32) : stp Rel (f_X6_join x y z) (f_X7_join x y z) := by
  refine stp_of (fun MC MM a hA hC hM => ?_)
  have hC0 := hC
  obtain ⟨cn, cs, ch, tb, hC⟩ := hC
  obtain ⟨⟨c1, c2, c3, c4, c5, c6, c7, c8, c9⟩, r0, r1, r2, r3, r4, r5, r6, r7⟩ := id hC
  obtain ⟨m1, m2, m3, m4, m5, m6, m7⟩ := id hM
  have h8 := hA.1.2.2.1
  have gn := isSc_ge c4.1
  unfold f_X6_join f_X6_join_30 f_X7_join f_X7_join_16
  rw [c1, mlS_ok c4.1, Option.bind_some]
  rcases both_find c4.1 r1 m1 hA.1 x with ⟨i, hi, rfl, hwi, rci, rmi, ex, ex'⟩ | ⟨ex, ex'⟩
  · rcases both_find c4.1 r1 m1 hA.1 y with ⟨j, hj, rfl, hwj, rcj, rmj, ey, ey'⟩ | ⟨ey, ey'⟩
    · rw [ex, Option.bind_some, ex', Option.bind_some]
      dsimp only
      rw [c1, mlS_ok c4.1, Option.bind_some, ey, Option.bind_some, ey', Option.bind_some]
      dsimp only
      rw [if_neg (ref_ne c4.1 (by omega)), if_neg (ref_ne c4.1 (by omega)), if_neg (show ¬ nI 1 = nI 0 by decide), if_neg (show ¬ nI 1 = nI 0 by decide), c1, mlS_ok c4.1, Option.bind_some, mrd_n (by omega) (by omega), Option.bind_some]
      simp only [r1.1, m1.2.1, bI_0', bI_1]
      cases hend : a.1.1 with
      | true =>
        rw [if_neg (by decide), if_pos rfl]
        exact same_of hA hC0 hM _
      | false =>
        rw [if_pos rfl, if_neg (show ¬ (false = true) by decide)]
        have fin : ∀ kk v, (kk = 20 ∨ kk = 21) → v = kk - 15 → Same ((f_X1_release (nI 16) MC).bind fun q9 => (maW (nI (cn + 3 + 3 * i))).bind fun c10 => (f_X6_allOfParts c10 q9.2).bind fun q11 => (maW (nI (cn + 3 + 3 * j))).bind fun c12 => (f_X6_allOfParts c12 q11.2).bind fun q13 => f_X6_join_86 q11.1 q13.1 (nI kk) q13.2) ((f_X7_empty MM).bind fun q7 => (f_X7_allOf (nI i) q7.2).bind fun q8 => f_X7_join_53 (nI j) q8.1 (nI v) q8.2) := fun kk v hkk hv => by
          obtain ⟨idm, K, tm, e1, f1, i1, d1, o1⟩ := mjoin_ok hkk hv (by omega) (by omega) hwi hwj rmi rmj
          have hMK : RelM K a := hM.keep3 (fun c hc => o1.1 c hc) (fun i hi => o1.2 i (by omega))
          rw [e1]
          unfold jt
          rw [mrd_n (by omega) (by omega), Option.bind_some, hMK.1.2.2.1]
          simp (disch := omega) only [nlt, neq]
          have hUl := unv_len hwi.2.2 hwj.2.2
          have hUk := unv_nkid hwi.2.2 hwj.2.2
          obtain ⟨u1, u2, u3, u4⟩ := unv_l (l1 := wP a.1.2.2[i]) (l2 := wP a.1.2.2[j])
          obtain ⟨N1, g1, g2, g3⟩ := release_ok r0 (mark := 16) (Nat.le_refl _) (by omega)
          rw [show 16 - 16 = 0 by omega, List.take_zero] at g2
          have n0 : ∀ c, c = 0 ∨ 13 ≤ c → N1 c = MC c := fun c hc => g3 c (by omega) (by omega)
          rw [g1, Option.bind_some, maW_ok c4.1 (show i < 8 by omega), Option.bind_some]
          dsimp only
          obtain ⟨p, N2, tc, k1, k2, k3, k4, k5, k6⟩ := callOf_ok (cw := cn + 3 + 3 * i) (by omega) hwi hUl hUk u1 u2 g2 (rci.congr (n0 _ (by omega)) (n0 _ (by omega)) (n0 _ (by omega))) (fun x hx => by cases hx)
          rw [k1, Option.bind_some, maW_ok c4.1 (show j < 8 by omega), Option.bind_some]
          dsimp only
          have n2 : FQ MC N2 := fun c hc => by rw [k6 c hc, n0 c (by omega)]
          obtain ⟨q, N3, td, l1, l2, l3, l4, l5, l6⟩ := callOf_ok (cw := cn + 3 + 3 * j) (by omega) hwj hUl hUk u3 u4 k2 (rcj.q (by omega) n2) k5
          have n3 : FQ MC N3 := n2.tr l6
          rw [l1, Option.bind_some]
          dsimp only
          unfold f_X6_join_86
          have ip : p < 16 + ([] ++ tc ++ td).length := by rw [List.length_append]; omega
          have dp : dn ([] ++ tc ++ td) p = joinT 20 (wP a.1.2.2[i]) := by rw [dn_app k3]; exact k4
          obtain ⟨q1, q2⟩ := room l2.1 l5 hUl hUk
          have z1 := jT_size (k := 20) hwi.2.2
          have z2 := jT_size (k := 20) hwj.2.2
          have y1 := wdt_le kk (joinT 20 (wP a.1.2.2[i]))
          have y2 := wdt_le kk (joinT 20 (wP a.1.2.2[j]))
          obtain ⟨r, N4, te, t1, t2, t3, t4, -, -, -, t8⟩ := two_ok l2 hkk ip l3 (by rw [dp, l4]; omega) (by rw [dp, l4]; exact ⟨by omega, by omega⟩)
          rw [dp, l4] at t4
          have hsz := two_size (k := kk) hwi.2.2 hwj.2.2
          rw [t1, Option.bind_some]
          dsimp only
          have hC2 : RelC' N4 a cn cs ch _ := hC.keep hA (fun c hc => by rw [t8 c (by omega), n3 c (by omega)]) (by rw [t8 22 (by omega), n3 22 (by omega)]) t2
          by_cases hl : a.1.2.2.length < 8
          · rw [if_neg (show ¬ a.1.2.2.length = 8 by omega)]
            simp only [bI_0']
            obtain ⟨N5, hb⟩ := bring_ok hC2 hA t3 t4 hsz hl
            rcases hb with ⟨b1, b2, b3⟩ | ⟨b1, b2, b3⟩
            · have hbd : ¬ bdP (joinT kk [joinT 20 (wP a.1.2.2[i]), joinT 20 (wP a.1.2.2[j])]) = false := fun q => b3 ((bdP_ok _).mp q)
              rw [b1, if_neg hbd, Option.bind_some]
              exact ⟨_, _, _, a, rfl, rfl, hA, b2, hMK⟩
            · have hbd := (bdP_ok _).mpr b1
              rw [b2, if_pos hbd, Option.bind_some]
              dsimp only
              obtain ⟨M2, e2, r2'⟩ := rc_ok hA hMK hl f1 i1 d1 b1
              rw [e2]
              exact ⟨_, _, _, _, rfl, rfl, okA_act hA (addS_ok hA.1 hl (by rw [← d1]; exact MT_AR f1 i1) b1), b3, r2'⟩
          · rw [if_pos (show a.1.2.2.length = 8 by omega), bring_full hC2 hA t3 t4 hl, Option.bind_some]
            exact ⟨_, _, _, a, rfl, rfl, hA, ⟨cn, cs, ch, _, hC2⟩, hMK⟩
        by_cases hz : z = nI 0
        · simp only [if_pos hz]
          exact fin 20 5 (Or.inl rfl) rfl
        · simp only [if_neg hz]
          exact fin 21 6 (Or.inr rfl) rfl
    · rw [ex, Option.bind_some, ex', Option.bind_some]
      dsimp only
      rw [c1, mlS_ok c4.1, Option.bind_some, ey, Option.bind_some, ey', Option.bind_some]
      dsimp only
      rw [if_neg (ref_ne c4.1 (by omega)), if_pos rfl, if_neg (show ¬ nI 1 = nI 0 by decide), if_pos rfl]
      exact same_of hA hC0 hM _
  · rw [ex, Option.bind_some, ex', Option.bind_some]
    dsimp only
    rw [c1, mlS_ok c4.1, Option.bind_some]
    rcases both_find c4.1 r1 m1 hA.1 y with ⟨j, hj, rfl, hwj, rcj, rmj, ey, ey'⟩ | ⟨ey, ey'⟩
    · rw [ey, Option.bind_some]
      dsimp only
      rw [if_pos rfl, if_pos rfl]
      exact same_of hA hC0 hM _
    · rw [ey, Option.bind_some]
      dsimp only
      rw [if_pos rfl, if_pos rfl]
      exact same_of hA hC0 hM _
