/-! PACKED WORDS AND SMALL ROWS, by gen.py -/
theorem ne_toInt {x v : Int32} {k : Int} (h : ¬ x = v) (hv : v.toInt = k) : x.toInt ≠ k := fun q => h (Int32.toInt_inj.mp (q.trans hv.symm))
theorem iinc_neg (x v : Int32) {n : Int} (h : Int32.ofInt n = -v) : x + Int32.ofInt n = x - v := by rw [h, Int32.sub_eq_add_neg]
def lsub : List (Option Value) → List (Option Value) → Prop
  | [], _ => True
  | none :: a, _ :: b => lsub a b
  | none :: a, [] => lsub a []
  | some v :: a, some w :: b => v = w ∧ lsub a b
  | some _ :: _, _ => False
theorem lsub_le : ∀ {a b : List (Option Value)}, lsub a b → ∀ (i : Nat) (v : Value), a[i]? = some (some v) → b[i]? = some (some v)
  | [], _, _, i, v, hi => by simp at hi
  | none :: a, _ :: b, h, 0, v, hi => by simp at hi
  | none :: a, _ :: b, h, i + 1, v, hi => by
    rw [List.getElem?_cons_succ] at hi ⊢
    exact lsub_le (a := a) (b := b) h i v hi
  | none :: a, [], h, 0, v, hi => by simp at hi
  | none :: a, [], h, i + 1, v, hi => by
    rw [List.getElem?_cons_succ] at hi
    have := lsub_le (a := a) (b := []) h i v hi
    simp at this
  | some w :: a, some u :: b, h, 0, v, hi => by
    rw [List.getElem?_cons_zero] at hi ⊢
    rw [← hi, h.1]
  | some w :: a, some u :: b, h, i + 1, v, hi => by
    rw [List.getElem?_cons_succ] at hi ⊢
    exact lsub_le (a := a) (b := b) h.2 i v hi
  | some w :: a, none :: b, h, _, _, _ => h.elim
  | some w :: a, [], h, _, _, _ => h.elim
theorem ct_of' {Po : GL → (Nat → Nat) → (Mem → Nat → va_E) → Rv → Array Value → State → Outcome → State → Prop} {l : Launch} {G : GL} {ad : Nat → Nat} {E : Mem → Nat → va_E} {y : MethodName} {cy : ByteArray} {my : Nat} {ret : Option FieldType} {fr lo : Nat} {vs : List Value} {M : Mem} {r : Rv} {o : Option Rv} {L : List (Option Value)}
    (hAd : AdOK G ad) (hp : plainName y.cls = true) (hc : ∀ v ∈ vs, v.category = 1) (hlen : (lg_sl vs).length ≤ my) (hL : L = vs.map some ++ List.replicate (my - vs.length) none)
    (body : ∀ X : CT, Cx l { frames := fr, cells := 0, slots := 0, locals := lo } cy y.cls my ret G ad X → KF l { frames := fr, cells := 0, slots := 0, locals := lo } my G ad E (QP Po G ad E) X o L 0 [] M) (ho : o = some r) : Ct Po l G ad E y cy my ret fr lo vs M r := by
  refine ct_of hAd hp hc hlen (fun i v hi => ?_) body ho
  rw [hL] at hi
  by_cases hl : i < vs.length
  · rw [List.getElem?_append_left (by rw [List.length_map]; exact hl), List.getElem?_map] at hi
    cases hv : vs[i]? with
    | none => rw [hv] at hi; cases hi
    | some w => rw [hv] at hi; cases hi; rfl
  · rw [List.getElem?_append_right (by rw [List.length_map]; omega)] at hi
    have := List.mem_of_getElem? hi
    rw [List.mem_replicate] at this
    exact absurd this.2 (by simp)
theorem set6_8 {ad : Nat → Nat} {m : Nat → Int32} {d : Nat} (h : isSb d = true) : (oX6 ad m).set 8 (.ref (ad d)) = oX6 ad (upd m 8 (nI d)) := by
  have h1 := isSb_lt h
  show _ = [_, _, _, _, _, _, _, _, Value.ref (ad (nI d).toNatClampNeg), _, _, _]
  rw [nI_clamp (by omega)]
  rfl
theorem set6_9 {ad : Nat → Nat} {m : Nat → Int32} {d : Nat} (h : isSb d = true) : (oX6 ad m).set 9 (.ref (ad d)) = oX6 ad (upd m 9 (nI d)) := by
  have h1 := isSb_lt h
  show _ = [_, _, _, _, _, _, _, _, _, Value.ref (ad (nI d).toNatClampNeg), _, _]
  rw [nI_clamp (by omega)]
  rfl
theorem inb_X0 : ∀ w ∈ u_ws RX0 TX0 7, w ∈ BIG := sub_big wsX00 [195, 197, 199, 201, 203, 205, 207] (by decide +kernel) (by decide +kernel)
theorem inb_X1 : ∀ w ∈ u_ws RX1 TX1 13, w ∈ BIG := sub_big wsX10 [152, 154, 156, 158, 160, 162, 164, 166, 168, 170, 172, 174, 176] (by decide +kernel) (by decide +kernel)
theorem inb_X2 : ∀ w ∈ u_ws RX2 TX2 8, w ∈ BIG := sub_big wsX20 [254, 256, 258, 260, 262, 264, 266, 268] (by decide +kernel) (by decide +kernel)
theorem inb_X3 : ∀ w ∈ u_ws RX3 TX3 7, w ∈ BIG := sub_big wsX30 [224, 226, 228, 230, 232, 234, 236] (by decide +kernel) (by decide +kernel)
theorem inb_X4 : ∀ w ∈ u_ws RX4 TX4 5, w ∈ BIG := sub_big wsX40 [331, 333, 335, 337, 339] (by decide +kernel) (by decide +kernel)
theorem inb_X5 : ∀ w ∈ u_ws RX5 TX5 8, w ∈ BIG := sub_big wsX50 [304, 306, 308, 310, 312, 314, 316, 318] (by decide +kernel) (by decide +kernel)
theorem inb_X6 : ∀ w ∈ u_ws RX6 TX6 12, w ∈ BIG := sub_big wsX60 [354, 356, 358, 360, 362, 364, 366, 368, 370, 372, 374, 376] (by decide +kernel) (by decide +kernel)
theorem inb_X7 : ∀ w ∈ u_ws RX7 TX7 26, w ∈ BIG := sub_big wsX70 [741, 743, 745, 747, 749, 751, 753, 755, 757, 759, 761, 763, 765, 767, 769, 771, 773, 775, 777, 779, 781, 783, 785, 787, 789, 791] (by decide +kernel) (by decide +kernel)
theorem w_ac_X0 : Cond.methodLink RX0 54 arraycopyName ∈ BIG := mem_big 454 (by decide +kernel) rfl
theorem w_ac_X1 : Cond.methodLink RX1 61 arraycopyName ∈ BIG := mem_big 419 (by decide +kernel) rfl
theorem w_ac_X4 : Cond.methodLink RX4 33 arraycopyName ∈ BIG := mem_big 387 (by decide +kernel) rfl
theorem w_ac_X5 : Cond.methodLink RX5 42 arraycopyName ∈ BIG := mem_big 394 (by decide +kernel) rfl
theorem w_acn : Cond.native arraycopyName ∈ BIG := mem_big 389 (by decide +kernel) rfl
theorem w_acs : Cond.static arraycopyName ∈ BIG := mem_big 388 (by decide +kernel) rfl
theorem w_aci : Cond.initialized "java/lang/System" ∈ BIG := mem_big 111 (by decide +kernel) rfl
theorem fp_X0_25 : FPk RX0 25 0 4 .int := ⟨RX0, TX0, 7, tyX0, rfl, inb_X0, by decide, tyX0_ok, nmX0, rfl, by decide +kernel, Or.inl (mem_big 192 (by decide +kernel) rfl)⟩
theorem fp_X0_29 : FPk RX0 29 0 5 .int := ⟨RX0, TX0, 7, tyX0, rfl, inb_X0, by decide, tyX0_ok, nmX0, rfl, by decide +kernel, Or.inl (mem_big 193 (by decide +kernel) rfl)⟩
theorem fp_X0_32 : FPk RX0 32 0 6 .int := ⟨RX0, TX0, 7, tyX0, rfl, inb_X0, by decide, tyX0_ok, nmX0, rfl, by decide +kernel, Or.inl (mem_big 194 (by decide +kernel) rfl)⟩
theorem fl_X0_21 : FLk RX0 21 0 0 := ⟨RX0, TX0, 7, rfl, inb_X0, by decide, Or.inl (mem_big 188 (by decide +kernel) rfl)⟩
theorem fl_X0_35 : FLk RX0 35 1 0 := ⟨RX1, TX1, 13, rfl, inb_X1, by decide, Or.inr ⟨"TimeWishes", List.mem_of_getElem? (i := 1) (by decide +kernel)⟩⟩
theorem fl_X0_25 : FLk RX0 25 0 4 := ⟨RX0, TX0, 7, rfl, inb_X0, by decide, Or.inl (mem_big 192 (by decide +kernel) rfl)⟩
theorem fl_X0_29 : FLk RX0 29 0 5 := ⟨RX0, TX0, 7, rfl, inb_X0, by decide, Or.inl (mem_big 193 (by decide +kernel) rfl)⟩
theorem fl_X0_15 : FLk RX0 15 0 2 := ⟨RX0, TX0, 7, rfl, inb_X0, by decide, Or.inl (mem_big 190 (by decide +kernel) rfl)⟩
theorem fl_X0_32 : FLk RX0 32 0 6 := ⟨RX0, TX0, 7, rfl, inb_X0, by decide, Or.inl (mem_big 194 (by decide +kernel) rfl)⟩
theorem fl_X0_40 : FLk RX0 40 1 2 := ⟨RX1, TX1, 13, rfl, inb_X1, by decide, Or.inr ⟨"TimeWishes", List.mem_of_getElem? (i := 4) (by decide +kernel)⟩⟩
theorem ml_X0_43 : MLv RX0 43 yX1_kid cX1_kid 3 (some .int) 2 := ⟨⟨Or.inr ⟨"TimeWishes", List.mem_of_getElem? (i := 12) (by decide +kernel)⟩, (mem_big 431 (by decide +kernel) rfl), (mem_big 104 (by decide +kernel) rfl), by decide +kernel⟩, (mem_big 430 (by decide +kernel) rfl), (mem_big 10 (by decide +kernel) rfl)⟩
theorem ml_X0_47 : MLv RX0 47 yX1_order cX1_order 10 (some .int) 2 := ⟨⟨Or.inr ⟨"TimeWishes", List.mem_of_getElem? (i := 13) (by decide +kernel)⟩, (mem_big 447 (by decide +kernel) rfl), (mem_big 104 (by decide +kernel) rfl), by decide +kernel⟩, (mem_big 446 (by decide +kernel) rfl), (mem_big 14 (by decide +kernel) rfl)⟩
theorem ml_X0_50 : MLv RX0 50 yX0_neutral cX0_neutral 1 (some .int) 0 := ⟨⟨Or.inl (mem_big 450 (by decide +kernel) rfl), (mem_big 453 (by decide +kernel) rfl), (mem_big 105 (by decide +kernel) rfl), by decide +kernel⟩, (mem_big 452 (by decide +kernel) rfl), (mem_big 15 (by decide +kernel) rfl)⟩
theorem ml_X0_60 : MLv RX0 60 yX1_make cX1_make 9 (some .int) 4 := ⟨⟨Or.inr ⟨"TimeWishes", List.mem_of_getElem? (i := 14) (by decide +kernel)⟩, (mem_big 414 (by decide +kernel) rfl), (mem_big 104 (by decide +kernel) rfl), by decide +kernel⟩, (mem_big 413 (by decide +kernel) rfl), (mem_big 6 (by decide +kernel) rfl)⟩
theorem ml_X0_64 : MLv RX0 64 yX0_begin cX0_begin 2 none 1 := ⟨⟨Or.inl (mem_big 436 (by decide +kernel) rfl), (mem_big 439 (by decide +kernel) rfl), (mem_big 105 (by decide +kernel) rfl), by decide +kernel⟩, (mem_big 438 (by decide +kernel) rfl), (mem_big 12 (by decide +kernel) rfl)⟩
theorem ml_X0_68 : MLv RX0 68 yX0_put cX0_put 8 none 1 := ⟨⟨Or.inl (mem_big 440 (by decide +kernel) rfl), (mem_big 443 (by decide +kernel) rfl), (mem_big 105 (by decide +kernel) rfl), by decide +kernel⟩, (mem_big 442 (by decide +kernel) rfl), (mem_big 13 (by decide +kernel) rfl)⟩
theorem ml_X0_71 : MLv RX0 71 yX0_done cX0_done 6 (some .int) 0 := ⟨⟨Or.inl (mem_big 455 (by decide +kernel) rfl), (mem_big 458 (by decide +kernel) rfl), (mem_big 105 (by decide +kernel) rfl), by decide +kernel⟩, (mem_big 457 (by decide +kernel) rfl), (mem_big 16 (by decide +kernel) rfl)⟩
theorem fl_X0_18 : FLk RX0 18 0 3 := ⟨RX0, TX0, 7, rfl, inb_X0, by decide, Or.inl (mem_big 191 (by decide +kernel) rfl)⟩
theorem fl_X0_9 : FLk RX0 9 0 1 := ⟨RX0, TX0, 7, rfl, inb_X0, by decide, Or.inl (mem_big 189 (by decide +kernel) rfl)⟩
theorem ml_X0_74 : MLv RX0 74 yX0_two cX0_two 4 (some .int) 3 := ⟨⟨Or.inl (mem_big 432 (by decide +kernel) rfl), (mem_big 435 (by decide +kernel) rfl), (mem_big 105 (by decide +kernel) rfl), by decide +kernel⟩, (mem_big 434 (by decide +kernel) rfl), (mem_big 11 (by decide +kernel) rfl)⟩
theorem ml_X0_78 : MLv RX0 78 yX0_joinKids cX0_joinKids 4 (some .int) 2 := ⟨⟨Or.inl (mem_big 460 (by decide +kernel) rfl), (mem_big 463 (by decide +kernel) rfl), (mem_big 105 (by decide +kernel) rfl), by decide +kernel⟩, (mem_big 462 (by decide +kernel) rfl), (mem_big 17 (by decide +kernel) rfl)⟩
theorem ml_X0_81 : MLv RX0 81 yX0_make cX0_make 4 (some .int) 3 := ⟨⟨Or.inl (mem_big 547 (by decide +kernel) rfl), (mem_big 550 (by decide +kernel) rfl), (mem_big 105 (by decide +kernel) rfl), by decide +kernel⟩, (mem_big 549 (by decide +kernel) rfl), (mem_big 31 (by decide +kernel) rfl)⟩
theorem fl_X1_18 : FLk RX1 18 1 2 := ⟨RX1, TX1, 13, rfl, inb_X1, by decide, Or.inl (mem_big 133 (by decide +kernel) rfl)⟩
theorem fl_X1_35 : FLk RX1 35 1 7 := ⟨RX1, TX1, 13, rfl, inb_X1, by decide, Or.inl (mem_big 145 (by decide +kernel) rfl)⟩
theorem fl_X1_15 : FLk RX1 15 1 1 := ⟨RX1, TX1, 13, rfl, inb_X1, by decide, Or.inl (mem_big 132 (by decide +kernel) rfl)⟩
theorem fl_X1_47 : FLk RX1 47 1 11 := ⟨RX1, TX1, 13, rfl, inb_X1, by decide, Or.inl (mem_big 149 (by decide +kernel) rfl)⟩
theorem fl_X1_38 : FLk RX1 38 1 8 := ⟨RX1, TX1, 13, rfl, inb_X1, by decide, Or.inl (mem_big 146 (by decide +kernel) rfl)⟩
theorem fl_X1_44 : FLk RX1 44 1 10 := ⟨RX1, TX1, 13, rfl, inb_X1, by decide, Or.inl (mem_big 148 (by decide +kernel) rfl)⟩
theorem fl_X1_41 : FLk RX1 41 1 9 := ⟨RX1, TX1, 13, rfl, inb_X1, by decide, Or.inl (mem_big 147 (by decide +kernel) rfl)⟩
theorem fp_X1_54 : FPk RX1 54 1 12 .int := ⟨RX1, TX1, 13, tyX1, rfl, inb_X1, by decide, tyX1_ok, nmX1, rfl, by decide +kernel, Or.inl (mem_big 151 (by decide +kernel) rfl)⟩
theorem fp_X1_47 : FPk RX1 47 1 11 .int := ⟨RX1, TX1, 13, tyX1, rfl, inb_X1, by decide, tyX1_ok, nmX1, rfl, by decide +kernel, Or.inl (mem_big 149 (by decide +kernel) rfl)⟩
theorem fl_X1_54 : FLk RX1 54 1 12 := ⟨RX1, TX1, 13, rfl, inb_X1, by decide, Or.inl (mem_big 151 (by decide +kernel) rfl)⟩
theorem fl_X1_9 : FLk RX1 9 1 0 := ⟨RX1, TX1, 13, rfl, inb_X1, by decide, Or.inl (mem_big 128 (by decide +kernel) rfl)⟩
theorem ml_X1_57 : MLv RX1 57 yX1_isMadeOf cX1_isMadeOf 7 (some .boolean) 5 := ⟨⟨Or.inl (mem_big 415 (by decide +kernel) rfl), (mem_big 418 (by decide +kernel) rfl), (mem_big 104 (by decide +kernel) rfl), by decide +kernel⟩, (mem_big 417 (by decide +kernel) rfl), (mem_big 7 (by decide +kernel) rfl)⟩
theorem ml_X1_67 : MLv RX1 67 yX1_describe cX1_describe 9 none 1 := ⟨⟨Or.inl (mem_big 420 (by decide +kernel) rfl), (mem_big 423 (by decide +kernel) rfl), (mem_big 104 (by decide +kernel) rfl), by decide +kernel⟩, (mem_big 422 (by decide +kernel) rfl), (mem_big 8 (by decide +kernel) rfl)⟩
theorem fl_X1_21 : FLk RX1 21 1 3 := ⟨RX1, TX1, 13, rfl, inb_X1, by decide, Or.inl (mem_big 137 (by decide +kernel) rfl)⟩
theorem fl_X1_24 : FLk RX1 24 1 4 := ⟨RX1, TX1, 13, rfl, inb_X1, by decide, Or.inl (mem_big 140 (by decide +kernel) rfl)⟩
theorem fl_X1_31 : FLk RX1 31 1 6 := ⟨RX1, TX1, 13, rfl, inb_X1, by decide, Or.inl (mem_big 144 (by decide +kernel) rfl)⟩
theorem fl_X1_27 : FLk RX1 27 1 5 := ⟨RX1, TX1, 13, rfl, inb_X1, by decide, Or.inl (mem_big 142 (by decide +kernel) rfl)⟩
theorem sl_X1_71 : SLk RX1 71 "SEPARATORS" "[C" := Or.inr ⟨"TimeWishes", List.mem_of_getElem? (i := 30) (by decide +kernel)⟩
theorem fl_X2_30 : FLk RX2 30 2 5 := ⟨RX2, TX2, 8, rfl, inb_X2, by decide, Or.inl (mem_big 250 (by decide +kernel) rfl)⟩
theorem fl_X2_9 : FLk RX2 9 2 2 := ⟨RX2, TX2, 8, rfl, inb_X2, by decide, Or.inl (mem_big 247 (by decide +kernel) rfl)⟩
theorem fp_X2_30 : FPk RX2 30 2 5 .int := ⟨RX2, TX2, 8, tyX2, rfl, inb_X2, by decide, tyX2_ok, nmX2, rfl, by decide +kernel, Or.inl (mem_big 250 (by decide +kernel) rfl)⟩
theorem ml_X2_41 : MLs RX2 41 yX2_isBetween cX2_isBetween 1 (some .boolean) 1 := ⟨⟨Or.inl (mem_big 522 (by decide +kernel) rfl), (mem_big 524 (by decide +kernel) rfl), (mem_big 107 (by decide +kernel) rfl), by decide +kernel⟩, (mem_big 523 (by decide +kernel) rfl)⟩
theorem ml_X2_34 : MLs RX2 34 yX2_isValue cX2_isValue 1 (some .boolean) 1 := ⟨⟨Or.inl (mem_big 516 (by decide +kernel) rfl), (mem_big 518 (by decide +kernel) rfl), (mem_big 107 (by decide +kernel) rfl), by decide +kernel⟩, (mem_big 517 (by decide +kernel) rfl)⟩
theorem ml_X2_38 : MLs RX2 38 yX2_isInFront cX2_isInFront 1 (some .boolean) 1 := ⟨⟨Or.inl (mem_big 519 (by decide +kernel) rfl), (mem_big 521 (by decide +kernel) rfl), (mem_big 107 (by decide +kernel) rfl), by decide +kernel⟩, (mem_big 520 (by decide +kernel) rfl)⟩
theorem fl_X2_44 : FLk RX2 44 2 6 := ⟨RX2, TX2, 8, rfl, inb_X2, by decide, Or.inl (mem_big 252 (by decide +kernel) rfl)⟩
theorem fl_X2_15 : FLk RX2 15 2 3 := ⟨RX2, TX2, 8, rfl, inb_X2, by decide, Or.inl (mem_big 248 (by decide +kernel) rfl)⟩
theorem fl_X2_47 : FLk RX2 47 2 7 := ⟨RX2, TX2, 8, rfl, inb_X2, by decide, Or.inl (mem_big 253 (by decide +kernel) rfl)⟩
theorem ml_X2_61 : MLv RX2 61 yX2_combineDownTo cX2_combineDownTo 5 none 1 := ⟨⟨Or.inl (mem_big 552 (by decide +kernel) rfl), (mem_big 555 (by decide +kernel) rfl), (mem_big 107 (by decide +kernel) rfl), by decide +kernel⟩, (mem_big 554 (by decide +kernel) rfl), (mem_big 32 (by decide +kernel) rfl)⟩
theorem ml_X2_64 : MLs RX2 64 yX2_leastToCombine cX2_leastToCombine 1 (some .int) 1 := ⟨⟨Or.inl (mem_big 557 (by decide +kernel) rfl), (mem_big 559 (by decide +kernel) rfl), (mem_big 107 (by decide +kernel) rfl), by decide +kernel⟩, (mem_big 558 (by decide +kernel) rfl)⟩
theorem ml_X2_50 : MLs RX2 50 yX2_valueOf cX2_valueOf 1 (some .int) 1 := ⟨⟨Or.inl (mem_big 532 (by decide +kernel) rfl), (mem_big 534 (by decide +kernel) rfl), (mem_big 107 (by decide +kernel) rfl), by decide +kernel⟩, (mem_big 533 (by decide +kernel) rfl)⟩
theorem ml_X2_54 : MLv RX2 54 yX2_hold cX2_hold 2 none 1 := ⟨⟨Or.inl (mem_big 535 (by decide +kernel) rfl), (mem_big 538 (by decide +kernel) rfl), (mem_big 107 (by decide +kernel) rfl), by decide +kernel⟩, (mem_big 537 (by decide +kernel) rfl), (mem_big 28 (by decide +kernel) rfl)⟩
theorem ml_X2_58 : MLv RX2 58 yX2_applyInFront cX2_applyInFront 3 none 0 := ⟨⟨Or.inl (mem_big 539 (by decide +kernel) rfl), (mem_big 542 (by decide +kernel) rfl), (mem_big 107 (by decide +kernel) rfl), by decide +kernel⟩, (mem_big 541 (by decide +kernel) rfl), (mem_big 29 (by decide +kernel) rfl)⟩
theorem ml_X2_67 : MLv RX2 67 yX2_await cX2_await 2 none 1 := ⟨⟨Or.inl (mem_big 560 (by decide +kernel) rfl), (mem_big 563 (by decide +kernel) rfl), (mem_big 107 (by decide +kernel) rfl), by decide +kernel⟩, (mem_big 562 (by decide +kernel) rfl), (mem_big 33 (by decide +kernel) rfl)⟩
theorem fp_X2_47 : FPk RX2 47 2 7 .int := ⟨RX2, TX2, 8, tyX2, rfl, inb_X2, by decide, tyX2_ok, nmX2, rfl, by decide +kernel, Or.inl (mem_big 253 (by decide +kernel) rfl)⟩
theorem fp_X2_44 : FPk RX2 44 2 6 .int := ⟨RX2, TX2, 8, tyX2, rfl, inb_X2, by decide, tyX2_ok, nmX2, rfl, by decide +kernel, Or.inl (mem_big 252 (by decide +kernel) rfl)⟩
theorem fl_X2_19 : FLk RX2 19 2 4 := ⟨RX2, TX2, 8, rfl, inb_X2, by decide, Or.inl (mem_big 249 (by decide +kernel) rfl)⟩
theorem fl_X2_26 : FLk RX2 26 2 1 := ⟨RX2, TX2, 8, rfl, inb_X2, by decide, Or.inl (mem_big 246 (by decide +kernel) rfl)⟩
theorem ml_X2_71 : MLv RX2 71 yX0_opposite cX0_opposite 5 (some .int) 1 := ⟨⟨Or.inr ⟨"TimeWishes", List.mem_of_getElem? (i := 21) (by decide +kernel)⟩, (mem_big 546 (by decide +kernel) rfl), (mem_big 105 (by decide +kernel) rfl), by decide +kernel⟩, (mem_big 545 (by decide +kernel) rfl), (mem_big 30 (by decide +kernel) rfl)⟩
theorem ml_X2_77 : MLv RX2 77 yX0_make cX0_make 4 (some .int) 3 := ⟨⟨Or.inr ⟨"TimeWishes", List.mem_of_getElem? (i := 22) (by decide +kernel)⟩, (mem_big 550 (by decide +kernel) rfl), (mem_big 105 (by decide +kernel) rfl), by decide +kernel⟩, (mem_big 549 (by decide +kernel) rfl), (mem_big 31 (by decide +kernel) rfl)⟩
theorem ml_X2_81 : MLs RX2 81 yX2_binding cX2_binding 1 (some .int) 1 := ⟨⟨Or.inl (mem_big 525 (by decide +kernel) rfl), (mem_big 527 (by decide +kernel) rfl), (mem_big 107 (by decide +kernel) rfl), by decide +kernel⟩, (mem_big 526 (by decide +kernel) rfl)⟩
theorem ml_X2_84 : MLv RX2 84 yX0_two cX0_two 4 (some .int) 3 := ⟨⟨Or.inr ⟨"TimeWishes", List.mem_of_getElem? (i := 23) (by decide +kernel)⟩, (mem_big 435 (by decide +kernel) rfl), (mem_big 105 (by decide +kernel) rfl), by decide +kernel⟩, (mem_big 434 (by decide +kernel) rfl), (mem_big 11 (by decide +kernel) rfl)⟩
theorem fl_X3_29 : FLk RX3 29 5 6 := ⟨RX5, TX5, 8, rfl, inb_X5, by decide, Or.inr ⟨"TimeWishes", List.mem_of_getElem? (i := 22) (by decide +kernel)⟩⟩
theorem fl_X3_9 : FLk RX3 9 3 1 := ⟨RX3, TX3, 7, rfl, inb_X3, by decide, Or.inl (mem_big 217 (by decide +kernel) rfl)⟩
theorem fl_X3_34 : FLk RX3 34 5 7 := ⟨RX5, TX5, 8, rfl, inb_X5, by decide, Or.inr ⟨"TimeWishes", List.mem_of_getElem? (i := 24) (by decide +kernel)⟩⟩
theorem fl_X3_25 : FLk RX3 25 3 0 := ⟨RX3, TX3, 7, rfl, inb_X3, by decide, Or.inl (mem_big 216 (by decide +kernel) rfl)⟩
theorem ml_X3_37 : MLv RX3 37 yX1_make cX1_make 9 (some .int) 4 := ⟨⟨Or.inr ⟨"TimeWishes", List.mem_of_getElem? (i := 10) (by decide +kernel)⟩, (mem_big 414 (by decide +kernel) rfl), (mem_big 104 (by decide +kernel) rfl), by decide +kernel⟩, (mem_big 413 (by decide +kernel) rfl), (mem_big 6 (by decide +kernel) rfl)⟩
theorem fl_X3_43 : FLk RX3 43 1 3 := ⟨RX1, TX1, 13, rfl, inb_X1, by decide, Or.inr ⟨"TimeWishes", List.mem_of_getElem? (i := 7) (by decide +kernel)⟩⟩
theorem fl_X3_46 : FLk RX3 46 1 2 := ⟨RX1, TX1, 13, rfl, inb_X1, by decide, Or.inr ⟨"TimeWishes", List.mem_of_getElem? (i := 5) (by decide +kernel)⟩⟩
theorem fl_X3_49 : FLk RX3 49 1 0 := ⟨RX1, TX1, 13, rfl, inb_X1, by decide, Or.inr ⟨"TimeWishes", List.mem_of_getElem? (i := 2) (by decide +kernel)⟩⟩
theorem ml_X3_52 : MLv RX3 52 yX1_kid cX1_kid 3 (some .int) 2 := ⟨⟨Or.inr ⟨"TimeWishes", List.mem_of_getElem? (i := 16) (by decide +kernel)⟩, (mem_big 431 (by decide +kernel) rfl), (mem_big 104 (by decide +kernel) rfl), by decide +kernel⟩, (mem_big 430 (by decide +kernel) rfl), (mem_big 10 (by decide +kernel) rfl)⟩
theorem fl_X3_56 : FLk RX3 56 3 5 := ⟨RX3, TX3, 7, rfl, inb_X3, by decide, Or.inl (mem_big 222 (by decide +kernel) rfl)⟩
theorem fl_X3_60 : FLk RX3 60 3 6 := ⟨RX3, TX3, 7, rfl, inb_X3, by decide, Or.inl (mem_big 223 (by decide +kernel) rfl)⟩
theorem fl_X3_19 : FLk RX3 19 3 3 := ⟨RX3, TX3, 7, rfl, inb_X3, by decide, Or.inl (mem_big 220 (by decide +kernel) rfl)⟩
theorem fl_X3_22 : FLk RX3 22 3 4 := ⟨RX3, TX3, 7, rfl, inb_X3, by decide, Or.inl (mem_big 221 (by decide +kernel) rfl)⟩
theorem ml_X3_70 : MLv RX3 70 yX3_write cX3_write 2 none 1 := ⟨⟨Or.inl (mem_big 650 (by decide +kernel) rfl), (mem_big 653 (by decide +kernel) rfl), (mem_big 106 (by decide +kernel) rfl), by decide +kernel⟩, (mem_big 652 (by decide +kernel) rfl), (mem_big 45 (by decide +kernel) rfl)⟩
theorem sl_X3_74 : SLk RX3 74 "SEPARATORS" "[C" := Or.inr ⟨"TimeWishes", List.mem_of_getElem? (i := 32) (by decide +kernel)⟩
theorem fp_X3_60 : FPk RX3 60 3 6 .int := ⟨RX3, TX3, 7, tyX3, rfl, inb_X3, by decide, tyX3_ok, nmX3, rfl, by decide +kernel, Or.inl (mem_big 223 (by decide +kernel) rfl)⟩
theorem ml_X3_63 : MLv RX3 63 yX3_spellLeaf cX3_spellLeaf 2 none 1 := ⟨⟨Or.inl (mem_big 646 (by decide +kernel) rfl), (mem_big 649 (by decide +kernel) rfl), (mem_big 106 (by decide +kernel) rfl), by decide +kernel⟩, (mem_big 648 (by decide +kernel) rfl), (mem_big 44 (by decide +kernel) rfl)⟩
theorem ml_X3_67 : MLv RX3 67 yX3_spellBehindForm cX3_spellBehindForm 2 none 0 := ⟨⟨Or.inl (mem_big 655 (by decide +kernel) rfl), (mem_big 658 (by decide +kernel) rfl), (mem_big 106 (by decide +kernel) rfl), by decide +kernel⟩, (mem_big 657 (by decide +kernel) rfl), (mem_big 46 (by decide +kernel) rfl)⟩
theorem fp_X3_56 : FPk RX3 56 3 5 .int := ⟨RX3, TX3, 7, tyX3, rfl, inb_X3, by decide, tyX3_ok, nmX3, rfl, by decide +kernel, Or.inl (mem_big 222 (by decide +kernel) rfl)⟩
theorem sl_X3_77 : SLk RX3 77 "LEAF_LETTERS" "[C" := Or.inr ⟨"TimeWishes", List.mem_of_getElem? (i := 31) (by decide +kernel)⟩
theorem fl_X3_15 : FLk RX3 15 3 2 := ⟨RX3, TX3, 7, rfl, inb_X3, by decide, Or.inl (mem_big 218 (by decide +kernel) rfl)⟩
theorem fl_X4_22 : FLk RX4 22 4 0 := ⟨RX4, TX4, 5, rfl, inb_X4, by decide, Or.inl (mem_big 321 (by decide +kernel) rfl)⟩
theorem fl_X4_26 : FLk RX4 26 4 1 := ⟨RX4, TX4, 5, rfl, inb_X4, by decide, Or.inl (mem_big 323 (by decide +kernel) rfl)⟩
theorem fl_X4_30 : FLk RX4 30 4 2 := ⟨RX4, TX4, 5, rfl, inb_X4, by decide, Or.inl (mem_big 325 (by decide +kernel) rfl)⟩
theorem fl_X4_9 : FLk RX4 9 4 3 := ⟨RX4, TX4, 5, rfl, inb_X4, by decide, Or.inl (mem_big 327 (by decide +kernel) rfl)⟩
theorem fl_X4_17 : FLk RX4 17 4 4 := ⟨RX4, TX4, 5, rfl, inb_X4, by decide, Or.inl (mem_big 329 (by decide +kernel) rfl)⟩
theorem ml_X4_39 : MLv RX4 39 yX5_copyFrom cX5_copyFrom 3 none 1 := ⟨⟨Or.inr ⟨"TimeWishes", List.mem_of_getElem? (i := 7) (by decide +kernel)⟩, (mem_big 393 (by decide +kernel) rfl), (mem_big 109 (by decide +kernel) rfl), by decide +kernel⟩, (mem_big 392 (by decide +kernel) rfl), (mem_big 1 (by decide +kernel) rfl)⟩
theorem fp_X4_22 : FPk RX4 22 4 0 .boolean := ⟨RX4, TX4, 5, tyX4, rfl, inb_X4, by decide, tyX4_ok, nmX4, rfl, by decide +kernel, Or.inl (mem_big 321 (by decide +kernel) rfl)⟩
theorem fp_X4_26 : FPk RX4 26 4 1 .int := ⟨RX4, TX4, 5, tyX4, rfl, inb_X4, by decide, tyX4_ok, nmX4, rfl, by decide +kernel, Or.inl (mem_big 323 (by decide +kernel) rfl)⟩
theorem fp_X4_30 : FPk RX4 30 4 2 .int := ⟨RX4, TX4, 5, tyX4, rfl, inb_X4, by decide, tyX4_ok, nmX4, rfl, by decide +kernel, Or.inl (mem_big 325 (by decide +kernel) rfl)⟩
theorem fl_X4_43 : FLk RX4 43 5 0 := ⟨RX5, TX5, 8, rfl, inb_X5, by decide, Or.inr ⟨"TimeWishes", List.mem_of_getElem? (i := 15) (by decide +kernel)⟩⟩
theorem fl_X4_46 : FLk RX4 46 5 1 := ⟨RX5, TX5, 8, rfl, inb_X5, by decide, Or.inr ⟨"TimeWishes", List.mem_of_getElem? (i := 17) (by decide +kernel)⟩⟩
theorem ml_X4_49 : MLv RX4 49 yX5_sizeOfParts cX5_sizeOfParts 3 (some .int) 0 := ⟨⟨Or.inr ⟨"TimeWishes", List.mem_of_getElem? (i := 38) (by decide +kernel)⟩, (mem_big 637 (by decide +kernel) rfl), (mem_big 109 (by decide +kernel) rfl), by decide +kernel⟩, (mem_big 636 (by decide +kernel) rfl), (mem_big 42 (by decide +kernel) rfl)⟩
theorem ml_X4_53 : MLv RX4 53 yX4_isOpen cX4_isOpen 2 (some .boolean) 1 := ⟨⟨Or.inl (mem_big 693 (by decide +kernel) rfl), (mem_big 687 (by decide +kernel) rfl), (mem_big 108 (by decide +kernel) rfl), by decide +kernel⟩, (mem_big 686 (by decide +kernel) rfl), (mem_big 49 (by decide +kernel) rfl)⟩
theorem ml_X4_57 : MLv RX4 57 yX4_howMany cX4_howMany 4 (some .int) 1 := ⟨⟨Or.inl (mem_big 597 (by decide +kernel) rfl), (mem_big 600 (by decide +kernel) rfl), (mem_big 108 (by decide +kernel) rfl), by decide +kernel⟩, (mem_big 599 (by decide +kernel) rfl), (mem_big 39 (by decide +kernel) rfl)⟩
theorem fp_X5_18 : FPk RX5 18 5 0 .boolean := ⟨RX5, TX5, 8, tyX5, rfl, inb_X5, by decide, tyX5_ok, nmX5, rfl, by decide +kernel, Or.inl (mem_big 285 (by decide +kernel) rfl)⟩
theorem fp_X5_22 : FPk RX5 22 5 2 .int := ⟨RX5, TX5, 8, tyX5, rfl, inb_X5, by decide, tyX5_ok, nmX5, rfl, by decide +kernel, Or.inl (mem_big 291 (by decide +kernel) rfl)⟩
theorem ml_X5_26 : MLv RX5 26 yX5_verdictOfParts cX5_verdictOfParts 1 (some .int) 0 := ⟨⟨Or.inl (mem_big 473 (by decide +kernel) rfl), (mem_big 476 (by decide +kernel) rfl), (mem_big 109 (by decide +kernel) rfl), by decide +kernel⟩, (mem_big 475 (by decide +kernel) rfl), (mem_big 20 (by decide +kernel) rfl)⟩
theorem fp_X5_30 : FPk RX5 30 5 1 .int := ⟨RX5, TX5, 8, tyX5, rfl, inb_X5, by decide, tyX5_ok, nmX5, rfl, by decide +kernel, Or.inl (mem_big 288 (by decide +kernel) rfl)⟩
theorem fp_X5_33 : FPk RX5 33 5 3 .int := ⟨RX5, TX5, 8, tyX5, rfl, inb_X5, by decide, tyX5_ok, nmX5, rfl, by decide +kernel, Or.inl (mem_big 293 (by decide +kernel) rfl)⟩
theorem fp_X5_36 : FPk RX5 36 5 4 .int := ⟨RX5, TX5, 8, tyX5, rfl, inb_X5, by decide, tyX5_ok, nmX5, rfl, by decide +kernel, Or.inl (mem_big 295 (by decide +kernel) rfl)⟩
theorem fp_X5_39 : FPk RX5 39 5 5 .int := ⟨RX5, TX5, 8, tyX5, rfl, inb_X5, by decide, tyX5_ok, nmX5, rfl, by decide +kernel, Or.inl (mem_big 297 (by decide +kernel) rfl)⟩
theorem fl_X5_30 : FLk RX5 30 5 1 := ⟨RX5, TX5, 8, rfl, inb_X5, by decide, Or.inl (mem_big 288 (by decide +kernel) rfl)⟩
theorem fl_X5_18 : FLk RX5 18 5 0 := ⟨RX5, TX5, 8, rfl, inb_X5, by decide, Or.inl (mem_big 285 (by decide +kernel) rfl)⟩
theorem fl_X5_22 : FLk RX5 22 5 2 := ⟨RX5, TX5, 8, rfl, inb_X5, by decide, Or.inl (mem_big 291 (by decide +kernel) rfl)⟩
theorem fl_X5_33 : FLk RX5 33 5 3 := ⟨RX5, TX5, 8, rfl, inb_X5, by decide, Or.inl (mem_big 293 (by decide +kernel) rfl)⟩
theorem fl_X5_36 : FLk RX5 36 5 4 := ⟨RX5, TX5, 8, rfl, inb_X5, by decide, Or.inl (mem_big 295 (by decide +kernel) rfl)⟩
theorem fl_X5_39 : FLk RX5 39 5 5 := ⟨RX5, TX5, 8, rfl, inb_X5, by decide, Or.inl (mem_big 297 (by decide +kernel) rfl)⟩
theorem fl_X5_9 : FLk RX5 9 5 6 := ⟨RX5, TX5, 8, rfl, inb_X5, by decide, Or.inl (mem_big 299 (by decide +kernel) rfl)⟩
theorem fl_X5_15 : FLk RX5 15 5 7 := ⟨RX5, TX5, 8, rfl, inb_X5, by decide, Or.inl (mem_big 302 (by decide +kernel) rfl)⟩
theorem ml_X5_48 : MLv RX5 48 yX5_partsThatAre cX5_partsThatAre 4 (some .int) 1 := ⟨⟨Or.inl (mem_big 477 (by decide +kernel) rfl), (mem_big 480 (by decide +kernel) rfl), (mem_big 109 (by decide +kernel) rfl), by decide +kernel⟩, (mem_big 479 (by decide +kernel) rfl), (mem_big 21 (by decide +kernel) rfl)⟩
theorem fl_X6_59 : FLk RX6 59 6 8 := ⟨RX6, TX6, 12, rfl, inb_X6, by decide, Or.inl (mem_big 350 (by decide +kernel) rfl)⟩
theorem fl_X6_65 : FLk RX6 65 4 0 := ⟨RX4, TX4, 5, rfl, inb_X4, by decide, Or.inr ⟨"TimeWishes", List.mem_of_getElem? (i := 25) (by decide +kernel)⟩⟩
theorem fl_X6_69 : FLk RX6 69 4 1 := ⟨RX4, TX4, 5, rfl, inb_X4, by decide, Or.inr ⟨"TimeWishes", List.mem_of_getElem? (i := 26) (by decide +kernel)⟩⟩
theorem fl_X6_62 : FLk RX6 62 6 9 := ⟨RX6, TX6, 12, rfl, inb_X6, by decide, Or.inl (mem_big 351 (by decide +kernel) rfl)⟩
theorem fl_X6_77 : FLk RX6 77 4 2 := ⟨RX4, TX4, 5, rfl, inb_X4, by decide, Or.inr ⟨"TimeWishes", List.mem_of_getElem? (i := 27) (by decide +kernel)⟩⟩
theorem fl_X6_107 : FLk RX6 107 4 3 := ⟨RX4, TX4, 5, rfl, inb_X4, by decide, Or.inr ⟨"TimeWishes", List.mem_of_getElem? (i := 28) (by decide +kernel)⟩⟩
theorem fl_X6_80 : FLk RX6 80 4 4 := ⟨RX4, TX4, 5, rfl, inb_X4, by decide, Or.inr ⟨"TimeWishes", List.mem_of_getElem? (i := 29) (by decide +kernel)⟩⟩
theorem fl_X6_84 : FLk RX6 84 5 0 := ⟨RX5, TX5, 8, rfl, inb_X5, by decide, Or.inr ⟨"TimeWishes", List.mem_of_getElem? (i := 14) (by decide +kernel)⟩⟩
theorem fl_X6_93 : FLk RX6 93 5 1 := ⟨RX5, TX5, 8, rfl, inb_X5, by decide, Or.inr ⟨"TimeWishes", List.mem_of_getElem? (i := 16) (by decide +kernel)⟩⟩
theorem fp_X6_69 : FPk RX6 69 4 1 .int := ⟨RX4, TX4, 5, tyX4, rfl, inb_X4, by decide, tyX4_ok, nmX4, rfl, by decide +kernel, Or.inr ⟨"TimeWishes", List.mem_of_getElem? (i := 26) (by decide +kernel)⟩⟩
theorem ml_X6_110 : MLv RX6 110 yX6_recordAndGoOn cX6_recordAndGoOn 3 none 0 := ⟨⟨Or.inl (mem_big 495 (by decide +kernel) rfl), (mem_big 498 (by decide +kernel) rfl), (mem_big 103 (by decide +kernel) rfl), by decide +kernel⟩, (mem_big 497 (by decide +kernel) rfl), (mem_big 24 (by decide +kernel) rfl)⟩
theorem ml_X6_89 : MLv RX6 89 yX6_rewriteParts cX6_rewriteParts 6 (some .boolean) 3 := ⟨⟨Or.inl (mem_big 395 (by decide +kernel) rfl), (mem_big 398 (by decide +kernel) rfl), (mem_big 103 (by decide +kernel) rfl), by decide +kernel⟩, (mem_big 397 (by decide +kernel) rfl), (mem_big 2 (by decide +kernel) rfl)⟩
theorem ml_X6_96 : MLv RX6 96 yX5_judge cX5_judge 2 (some .boolean) 1 := ⟨⟨Or.inr ⟨"TimeWishes", List.mem_of_getElem? (i := 17) (by decide +kernel)⟩, (mem_big 472 (by decide +kernel) rfl), (mem_big 109 (by decide +kernel) rfl), by decide +kernel⟩, (mem_big 471 (by decide +kernel) rfl), (mem_big 19 (by decide +kernel) rfl)⟩
theorem ml_X6_100 : MLv RX6 100 yX6_signsToBlame cX6_signsToBlame 5 (some .int) 2 := ⟨⟨Or.inl (mem_big 481 (by decide +kernel) rfl), (mem_big 484 (by decide +kernel) rfl), (mem_big 103 (by decide +kernel) rfl), by decide +kernel⟩, (mem_big 483 (by decide +kernel) rfl), (mem_big 22 (by decide +kernel) rfl)⟩
theorem fp_X6_104 : FPk RX6 104 5 4 .int := ⟨RX5, TX5, 8, tyX5, rfl, inb_X5, by decide, tyX5_ok, nmX5, rfl, by decide +kernel, Or.inr ⟨"TimeWishes", List.mem_of_getElem? (i := 20) (by decide +kernel)⟩⟩
theorem ml_X6_73 : MLv RX6 73 yX4_copyFrom cX4_copyFrom 3 none 1 := ⟨⟨Or.inr ⟨"TimeWishes", List.mem_of_getElem? (i := 6) (by decide +kernel)⟩, (mem_big 386 (by decide +kernel) rfl), (mem_big 108 (by decide +kernel) rfl), by decide +kernel⟩, (mem_big 385 (by decide +kernel) rfl), (mem_big 0 (by decide +kernel) rfl)⟩
theorem ml_X6_113 : MLv RX6 113 yX6_endParts cX6_endParts 4 none 1 := ⟨⟨Or.inl (mem_big 503 (by decide +kernel) rfl), (mem_big 506 (by decide +kernel) rfl), (mem_big 103 (by decide +kernel) rfl), by decide +kernel⟩, (mem_big 505 (by decide +kernel) rfl), (mem_big 25 (by decide +kernel) rfl)⟩
theorem ml_X6_117 : MLv RX6 117 yX5_verdictOfParts cX5_verdictOfParts 1 (some .int) 0 := ⟨⟨Or.inr ⟨"TimeWishes", List.mem_of_getElem? (i := 18) (by decide +kernel)⟩, (mem_big 476 (by decide +kernel) rfl), (mem_big 109 (by decide +kernel) rfl), by decide +kernel⟩, (mem_big 475 (by decide +kernel) rfl), (mem_big 20 (by decide +kernel) rfl)⟩
theorem fp_X6_93 : FPk RX6 93 5 1 .int := ⟨RX5, TX5, 8, tyX5, rfl, inb_X5, by decide, tyX5_ok, nmX5, rfl, by decide +kernel, Or.inr ⟨"TimeWishes", List.mem_of_getElem? (i := 16) (by decide +kernel)⟩⟩
theorem fp_X6_65 : FPk RX6 65 4 0 .boolean := ⟨RX4, TX4, 5, tyX4, rfl, inb_X4, by decide, tyX4_ok, nmX4, rfl, by decide +kernel, Or.inr ⟨"TimeWishes", List.mem_of_getElem? (i := 25) (by decide +kernel)⟩⟩
theorem fl_X6_37 : FLk RX6 37 6 3 := ⟨RX6, TX6, 12, rfl, inb_X6, by decide, Or.inl (mem_big 345 (by decide +kernel) rfl)⟩
theorem fl_X6_12 : FLk RX6 12 6 0 := ⟨RX6, TX6, 12, rfl, inb_X6, by decide, Or.inl (mem_big 342 (by decide +kernel) rfl)⟩
theorem ml_X6_121 : MLv RX6 121 yX2_findFault cX2_findFault 5 (some .int) 0 := ⟨⟨Or.inr ⟨"TimeWishes", List.mem_of_getElem? (i := 19) (by decide +kernel)⟩, (mem_big 515 (by decide +kernel) rfl), (mem_big 107 (by decide +kernel) rfl), by decide +kernel⟩, (mem_big 514 (by decide +kernel) rfl), (mem_big 26 (by decide +kernel) rfl)⟩
theorem ml_X6_124 : MLv RX6 124 yX1_release cX1_release 3 none 1 := ⟨⟨Or.inr ⟨"TimeWishes", List.mem_of_getElem? (i := 8) (by decide +kernel)⟩, (mem_big 406 (by decide +kernel) rfl), (mem_big 104 (by decide +kernel) rfl), by decide +kernel⟩, (mem_big 405 (by decide +kernel) rfl), (mem_big 4 (by decide +kernel) rfl)⟩
theorem ml_X6_128 : MLv RX6 128 yX2_read cX2_read 3 (some .int) 0 := ⟨⟨Or.inr ⟨"TimeWishes", List.mem_of_getElem? (i := 20) (by decide +kernel)⟩, (mem_big 531 (by decide +kernel) rfl), (mem_big 107 (by decide +kernel) rfl), by decide +kernel⟩, (mem_big 530 (by decide +kernel) rfl), (mem_big 27 (by decide +kernel) rfl)⟩
theorem ml_X6_131 : MLv RX6 131 yX6_bring cX6_bring 8 (some .int) 1 := ⟨⟨Or.inl (mem_big 564 (by decide +kernel) rfl), (mem_big 567 (by decide +kernel) rfl), (mem_big 103 (by decide +kernel) rfl), by decide +kernel⟩, (mem_big 566 (by decide +kernel) rfl), (mem_big 34 (by decide +kernel) rfl)⟩
theorem fl_X6_21 : FLk RX6 21 6 1 := ⟨RX6, TX6, 12, rfl, inb_X6, by decide, Or.inl (mem_big 343 (by decide +kernel) rfl)⟩
theorem ml_X6_143 : MLv RX6 143 yX0_two cX0_two 4 (some .int) 3 := ⟨⟨Or.inr ⟨"TimeWishes", List.mem_of_getElem? (i := 30) (by decide +kernel)⟩, (mem_big 435 (by decide +kernel) rfl), (mem_big 105 (by decide +kernel) rfl), by decide +kernel⟩, (mem_big 434 (by decide +kernel) rfl), (mem_big 11 (by decide +kernel) rfl)⟩
theorem ml_X6_135 : MLv RX6 135 yX4_find cX4_find 2 (some (.object RX5)) 1 := ⟨⟨Or.inr ⟨"TimeWishes", List.mem_of_getElem? (i := 26) (by decide +kernel)⟩, (mem_big 580 (by decide +kernel) rfl), (mem_big 108 (by decide +kernel) rfl), by decide +kernel⟩, (mem_big 579 (by decide +kernel) rfl), (mem_big 36 (by decide +kernel) rfl)⟩
theorem ml_X6_139 : MLv RX6 139 yX6_allOfParts cX6_allOfParts 3 (some .int) 1 := ⟨⟨Or.inl (mem_big 581 (by decide +kernel) rfl), (mem_big 584 (by decide +kernel) rfl), (mem_big 103 (by decide +kernel) rfl), by decide +kernel⟩, (mem_big 583 (by decide +kernel) rfl), (mem_big 37 (by decide +kernel) rfl)⟩
theorem fp_X6_84 : FPk RX6 84 5 0 .boolean := ⟨RX5, TX5, 8, tyX5, rfl, inb_X5, by decide, tyX5_ok, nmX5, rfl, by decide +kernel, Or.inr ⟨"TimeWishes", List.mem_of_getElem? (i := 14) (by decide +kernel)⟩⟩
theorem ml_X6_147 : MLv RX6 147 yX4_howManyThere cX4_howManyThere 1 (some .int) 0 := ⟨⟨Or.inr ⟨"TimeWishes", List.mem_of_getElem? (i := 31) (by decide +kernel)⟩, (mem_big 596 (by decide +kernel) rfl), (mem_big 108 (by decide +kernel) rfl), by decide +kernel⟩, (mem_big 595 (by decide +kernel) rfl), (mem_big 38 (by decide +kernel) rfl)⟩
theorem fl_X6_154 : FLk RX6 154 2 5 := ⟨RX2, TX2, 8, rfl, inb_X2, by decide, Or.inr ⟨"TimeWishes", List.mem_of_getElem? (i := 13) (by decide +kernel)⟩⟩
theorem ml_X6_150 : MLv RX6 150 yX2_append cX2_append 2 (some .boolean) 1 := ⟨⟨Or.inr ⟨"TimeWishes", List.mem_of_getElem? (i := 32) (by decide +kernel)⟩, (mem_big 608 (by decide +kernel) rfl), (mem_big 107 (by decide +kernel) rfl), by decide +kernel⟩, (mem_big 607 (by decide +kernel) rfl), (mem_big 40 (by decide +kernel) rfl)⟩
theorem fp_X6_154 : FPk RX6 154 2 5 .int := ⟨RX2, TX2, 8, tyX2, rfl, inb_X2, by decide, tyX2_ok, nmX2, rfl, by decide +kernel, Or.inr ⟨"TimeWishes", List.mem_of_getElem? (i := 13) (by decide +kernel)⟩⟩
theorem fl_X6_157 : FLk RX6 157 6 10 := ⟨RX6, TX6, 12, rfl, inb_X6, by decide, Or.inl (mem_big 352 (by decide +kernel) rfl)⟩
theorem fl_X6_50 : FLk RX6 50 6 6 := ⟨RX6, TX6, 12, rfl, inb_X6, by decide, Or.inl (mem_big 348 (by decide +kernel) rfl)⟩
theorem fp_X6_157 : FPk RX6 157 6 10 .int := ⟨RX6, TX6, 12, tyX6, rfl, inb_X6, by decide, tyX6_ok, nmX6, rfl, by decide +kernel, Or.inl (mem_big 352 (by decide +kernel) rfl)⟩
theorem fp_X6_59 : FPk RX6 59 6 8 (.object RX4) := ⟨RX6, TX6, 12, tyX6, rfl, inb_X6, by decide, tyX6_ok, nmX6, rfl, by decide +kernel, Or.inl (mem_big 350 (by decide +kernel) rfl)⟩
theorem fl_X6_55 : FLk RX6 55 6 7 := ⟨RX6, TX6, 12, rfl, inb_X6, by decide, Or.inl (mem_big 349 (by decide +kernel) rfl)⟩
theorem fp_X6_160 : FPk RX6 160 6 11 .boolean := ⟨RX6, TX6, 12, tyX6, rfl, inb_X6, by decide, tyX6_ok, nmX6, rfl, by decide +kernel, Or.inl (mem_big 353 (by decide +kernel) rfl)⟩
theorem fl_X6_160 : FLk RX6 160 6 11 := ⟨RX6, TX6, 12, rfl, inb_X6, by decide, Or.inl (mem_big 353 (by decide +kernel) rfl)⟩
theorem fl_X6_178 : FLk RX6 178 5 5 := ⟨RX5, TX5, 8, rfl, inb_X5, by decide, Or.inr ⟨"TimeWishes", List.mem_of_getElem? (i := 21) (by decide +kernel)⟩⟩
theorem fl_X6_104 : FLk RX6 104 5 4 := ⟨RX5, TX5, 8, rfl, inb_X5, by decide, Or.inr ⟨"TimeWishes", List.mem_of_getElem? (i := 20) (by decide +kernel)⟩⟩
theorem fl_X6_169 : FLk RX6 169 5 3 := ⟨RX5, TX5, 8, rfl, inb_X5, by decide, Or.inr ⟨"TimeWishes", List.mem_of_getElem? (i := 19) (by decide +kernel)⟩⟩
theorem fl_X6_163 : FLk RX6 163 5 2 := ⟨RX5, TX5, 8, rfl, inb_X5, by decide, Or.inr ⟨"TimeWishes", List.mem_of_getElem? (i := 18) (by decide +kernel)⟩⟩
theorem ml_X6_166 : MLv RX6 166 yX5_partsThatAre cX5_partsThatAre 4 (some .int) 1 := ⟨⟨Or.inr ⟨"TimeWishes", List.mem_of_getElem? (i := 33) (by decide +kernel)⟩, (mem_big 480 (by decide +kernel) rfl), (mem_big 109 (by decide +kernel) rfl), by decide +kernel⟩, (mem_big 479 (by decide +kernel) rfl), (mem_big 21 (by decide +kernel) rfl)⟩
theorem ml_X6_172 : MLv RX6 172 yX6_verdictIfEnded cX6_verdictIfEnded 3 (some .int) 1 := ⟨⟨Or.inl (mem_big 630 (by decide +kernel) rfl), (mem_big 633 (by decide +kernel) rfl), (mem_big 103 (by decide +kernel) rfl), by decide +kernel⟩, (mem_big 632 (by decide +kernel) rfl), (mem_big 41 (by decide +kernel) rfl)⟩
theorem ml_X6_175 : MLv RX6 175 yX5_sizeOfParts cX5_sizeOfParts 3 (some .int) 0 := ⟨⟨Or.inr ⟨"TimeWishes", List.mem_of_getElem? (i := 34) (by decide +kernel)⟩, (mem_big 637 (by decide +kernel) rfl), (mem_big 109 (by decide +kernel) rfl), by decide +kernel⟩, (mem_big 636 (by decide +kernel) rfl), (mem_big 42 (by decide +kernel) rfl)⟩
theorem fl_X6_28 : FLk RX6 28 6 2 := ⟨RX6, TX6, 12, rfl, inb_X6, by decide, Or.inl (mem_big 344 (by decide +kernel) rfl)⟩
theorem fl_X6_184 : FLk RX6 184 3 2 := ⟨RX3, TX3, 7, rfl, inb_X3, by decide, Or.inr ⟨"TimeWishes", List.mem_of_getElem? (i := 12) (by decide +kernel)⟩⟩
theorem ml_X6_181 : MLv RX6 181 yX3_spell cX3_spell 7 (some .int) 2 := ⟨⟨Or.inr ⟨"TimeWishes", List.mem_of_getElem? (i := 35) (by decide +kernel)⟩, (mem_big 645 (by decide +kernel) rfl), (mem_big 106 (by decide +kernel) rfl), by decide +kernel⟩, (mem_big 644 (by decide +kernel) rfl), (mem_big 43 (by decide +kernel) rfl)⟩
theorem fl_X6_197 : FLk RX6 197 1 5 := ⟨RX1, TX1, 13, rfl, inb_X1, by decide, Or.inr ⟨"TimeWishes", List.mem_of_getElem? (i := 10) (by decide +kernel)⟩⟩
theorem fl_X6_191 : FLk RX6 191 1 4 := ⟨RX1, TX1, 13, rfl, inb_X1, by decide, Or.inr ⟨"TimeWishes", List.mem_of_getElem? (i := 9) (by decide +kernel)⟩⟩
theorem fl_X6_188 : FLk RX6 188 5 6 := ⟨RX5, TX5, 8, rfl, inb_X5, by decide, Or.inr ⟨"TimeWishes", List.mem_of_getElem? (i := 23) (by decide +kernel)⟩⟩
theorem ml_X6_194 : MLv RX6 194 yX6_loadAlone cX6_loadAlone 3 (some .int) 2 := ⟨⟨Or.inl (mem_big 399 (by decide +kernel) rfl), (mem_big 402 (by decide +kernel) rfl), (mem_big 103 (by decide +kernel) rfl), by decide +kernel⟩, (mem_big 401 (by decide +kernel) rfl), (mem_big 3 (by decide +kernel) rfl)⟩
theorem ml_X6_201 : MLv RX6 201 yX6_verdictBehind cX6_verdictBehind 6 (some .int) 2 := ⟨⟨Or.inl (mem_big 485 (by decide +kernel) rfl), (mem_big 488 (by decide +kernel) rfl), (mem_big 103 (by decide +kernel) rfl), by decide +kernel⟩, (mem_big 487 (by decide +kernel) rfl), (mem_big 23 (by decide +kernel) rfl)⟩
theorem fl_X6_41 : FLk RX6 41 6 4 := ⟨RX6, TX6, 12, rfl, inb_X6, by decide, Or.inl (mem_big 346 (by decide +kernel) rfl)⟩
theorem ml_X6_204 : MLv RX6 204 yX6_findOutcomes cX6_findOutcomes 3 none 1 := ⟨⟨Or.inl (mem_big 672 (by decide +kernel) rfl), (mem_big 675 (by decide +kernel) rfl), (mem_big 103 (by decide +kernel) rfl), by decide +kernel⟩, (mem_big 674 (by decide +kernel) rfl), (mem_big 47 (by decide +kernel) rfl)⟩
theorem ml_X6_207 : MLv RX6 207 yX4_isOpen cX4_isOpen 2 (some .boolean) 1 := ⟨⟨Or.inr ⟨"TimeWishes", List.mem_of_getElem? (i := 36) (by decide +kernel)⟩, (mem_big 687 (by decide +kernel) rfl), (mem_big 108 (by decide +kernel) rfl), by decide +kernel⟩, (mem_big 686 (by decide +kernel) rfl), (mem_big 49 (by decide +kernel) rfl)⟩
theorem ml_X6_210 : MLv RX6 210 yX4_rankOfOpen cX4_rankOfOpen 6 (some .int) 1 := ⟨⟨Or.inr ⟨"TimeWishes", List.mem_of_getElem? (i := 37) (by decide +kernel)⟩, (mem_big 691 (by decide +kernel) rfl), (mem_big 108 (by decide +kernel) rfl), by decide +kernel⟩, (mem_big 690 (by decide +kernel) rfl), (mem_big 50 (by decide +kernel) rfl)⟩
theorem ml_X6_213 : MLv RX6 213 yX4_howMany cX4_howMany 4 (some .int) 1 := ⟨⟨Or.inr ⟨"TimeWishes", List.mem_of_getElem? (i := 39) (by decide +kernel)⟩, (mem_big 600 (by decide +kernel) rfl), (mem_big 108 (by decide +kernel) rfl), by decide +kernel⟩, (mem_big 599 (by decide +kernel) rfl), (mem_big 39 (by decide +kernel) rfl)⟩
theorem fp_X6_62 : FPk RX6 62 6 9 (.object RX4) := ⟨RX6, TX6, 12, tyX6, rfl, inb_X6, by decide, tyX6_ok, nmX6, rfl, by decide +kernel, Or.inl (mem_big 351 (by decide +kernel) rfl)⟩
theorem fl_X6_220 : FLk RX6 220 1 3 := ⟨RX1, TX1, 13, rfl, inb_X1, by decide, Or.inr ⟨"TimeWishes", List.mem_of_getElem? (i := 8) (by decide +kernel)⟩⟩
theorem ml_X6_216 : MLv RX6 216 yX0_behind cX0_behind 6 (some .int) 2 := ⟨⟨Or.inr ⟨"TimeWishes", List.mem_of_getElem? (i := 11) (by decide +kernel)⟩, (mem_big 427 (by decide +kernel) rfl), (mem_big 105 (by decide +kernel) rfl), by decide +kernel⟩, (mem_big 426 (by decide +kernel) rfl), (mem_big 9 (by decide +kernel) rfl)⟩
theorem ml_X6_223 : MLv RX6 223 yX3_save cX3_save 10 none 3 := ⟨⟨Or.inr ⟨"TimeWishes", List.mem_of_getElem? (i := 15) (by decide +kernel)⟩, (mem_big 467 (by decide +kernel) rfl), (mem_big 106 (by decide +kernel) rfl), by decide +kernel⟩, (mem_big 466 (by decide +kernel) rfl), (mem_big 18 (by decide +kernel) rfl)⟩
theorem fl_X6_227 : FLk RX6 227 1 0 := ⟨RX1, TX1, 13, rfl, inb_X1, by decide, Or.inr ⟨"TimeWishes", List.mem_of_getElem? (i := 3) (by decide +kernel)⟩⟩
theorem fl_X6_230 : FLk RX6 230 1 2 := ⟨RX1, TX1, 13, rfl, inb_X1, by decide, Or.inr ⟨"TimeWishes", List.mem_of_getElem? (i := 6) (by decide +kernel)⟩⟩
theorem ml_X6_236 : MLv RX6 236 yX5_come cX5_come 3 none 2 := ⟨⟨Or.inr ⟨"TimeWishes", List.mem_of_getElem? (i := 25) (by decide +kernel)⟩, (mem_big 572 (by decide +kernel) rfl), (mem_big 109 (by decide +kernel) rfl), by decide +kernel⟩, (mem_big 571 (by decide +kernel) rfl), (mem_big 35 (by decide +kernel) rfl)⟩
theorem fp_X6_77 : FPk RX6 77 4 2 .int := ⟨RX4, TX4, 5, tyX4, rfl, inb_X4, by decide, tyX4_ok, nmX4, rfl, by decide +kernel, Or.inr ⟨"TimeWishes", List.mem_of_getElem? (i := 27) (by decide +kernel)⟩⟩
theorem ml_X6_233 : MLv RX6 233 yX1_kid cX1_kid 3 (some .int) 2 := ⟨⟨Or.inr ⟨"TimeWishes", List.mem_of_getElem? (i := 24) (by decide +kernel)⟩, (mem_big 431 (by decide +kernel) rfl), (mem_big 104 (by decide +kernel) rfl), by decide +kernel⟩, (mem_big 430 (by decide +kernel) rfl), (mem_big 10 (by decide +kernel) rfl)⟩
theorem ml_X6_240 : MLv RX6 240 yX3_load cX3_load 8 (some .int) 2 := ⟨⟨Or.inr ⟨"TimeWishes", List.mem_of_getElem? (i := 9) (by decide +kernel)⟩, (mem_big 410 (by decide +kernel) rfl), (mem_big 106 (by decide +kernel) rfl), by decide +kernel⟩, (mem_big 409 (by decide +kernel) rfl), (mem_big 5 (by decide +kernel) rfl)⟩
theorem ml_X6_249 : MLv RX6 249 yX0_done cX0_done 6 (some .int) 0 := ⟨⟨Or.inr ⟨"TimeWishes", List.mem_of_getElem? (i := 29) (by decide +kernel)⟩, (mem_big 458 (by decide +kernel) rfl), (mem_big 105 (by decide +kernel) rfl), by decide +kernel⟩, (mem_big 457 (by decide +kernel) rfl), (mem_big 16 (by decide +kernel) rfl)⟩
theorem ml_X6_246 : MLv RX6 246 yX0_put cX0_put 8 none 1 := ⟨⟨Or.inr ⟨"TimeWishes", List.mem_of_getElem? (i := 28) (by decide +kernel)⟩, (mem_big 443 (by decide +kernel) rfl), (mem_big 105 (by decide +kernel) rfl), by decide +kernel⟩, (mem_big 442 (by decide +kernel) rfl), (mem_big 13 (by decide +kernel) rfl)⟩
theorem ml_X6_243 : MLv RX6 243 yX0_begin cX0_begin 2 none 1 := ⟨⟨Or.inr ⟨"TimeWishes", List.mem_of_getElem? (i := 27) (by decide +kernel)⟩, (mem_big 439 (by decide +kernel) rfl), (mem_big 105 (by decide +kernel) rfl), by decide +kernel⟩, (mem_big 438 (by decide +kernel) rfl), (mem_big 12 (by decide +kernel) rfl)⟩
theorem ml_X6_252 : MLs RX6 252 yX6_verdictOfForm cX6_verdictOfForm 1 (some .int) 1 := ⟨⟨Or.inl (mem_big 489 (by decide +kernel) rfl), (mem_big 491 (by decide +kernel) rfl), (mem_big 103 (by decide +kernel) rfl), by decide +kernel⟩, (mem_big 490 (by decide +kernel) rfl)⟩
theorem ml_X6_255 : MLs RX6 255 yX6_worse cX6_worse 2 (some .int) 2 := ⟨⟨Or.inl (mem_big 492 (by decide +kernel) rfl), (mem_big 494 (by decide +kernel) rfl), (mem_big 103 (by decide +kernel) rfl), by decide +kernel⟩, (mem_big 493 (by decide +kernel) rfl)⟩
theorem ml_X6_258 : MLv RX6 258 yX6_addOutcomesOfPart cX6_addOutcomesOfPart 7 none 2 := ⟨⟨Or.inl (mem_big 676 (by decide +kernel) rfl), (mem_big 679 (by decide +kernel) rfl), (mem_big 103 (by decide +kernel) rfl), by decide +kernel⟩, (mem_big 678 (by decide +kernel) rfl), (mem_big 48 (by decide +kernel) rfl)⟩
theorem fl_X6_262 : FLk RX6 262 1 11 := ⟨RX1, TX1, 13, rfl, inb_X1, by decide, Or.inr ⟨"TimeWishes", List.mem_of_getElem? (i := 11) (by decide +kernel)⟩⟩
theorem fl_X6_45 : FLk RX6 45 6 5 := ⟨RX6, TX6, 12, rfl, inb_X6, by decide, Or.inl (mem_big 347 (by decide +kernel) rfl)⟩
theorem fl_X7_65 : FLk RX7 65 7 24 := ⟨RX7, TX7, 26, rfl, inb_X7, by decide, Or.inl (mem_big 739 (by decide +kernel) rfl)⟩
theorem fl_X7_14 : FLk RX7 14 7 1 := ⟨RX7, TX7, 26, rfl, inb_X7, by decide, Or.inl (mem_big 716 (by decide +kernel) rfl)⟩
theorem fl_X7_7 : FLk RX7 7 7 0 := ⟨RX7, TX7, 26, rfl, inb_X7, by decide, Or.inl (mem_big 715 (by decide +kernel) rfl)⟩
theorem fp_X7_65 : FPk RX7 65 7 24 .int := ⟨RX7, TX7, 26, tyX7, rfl, inb_X7, by decide, tyX7_ok, nmX7, rfl, by decide +kernel, Or.inl (mem_big 739 (by decide +kernel) rfl)⟩
theorem ml_X7_70 : MLs RX7 70 yX7_in cX7_in 3 (some .boolean) 3 := ⟨⟨Or.inl (mem_big 798 (by decide +kernel) rfl), (mem_big 800 (by decide +kernel) rfl), (mem_big 110 (by decide +kernel) rfl), by decide +kernel⟩, (mem_big 799 (by decide +kernel) rfl)⟩
theorem ml_X7_74 : MLs RX7 74 yX7_w cX7_w 1 (some .int) 1 := ⟨⟨Or.inl (mem_big 805 (by decide +kernel) rfl), (mem_big 807 (by decide +kernel) rfl), (mem_big 110 (by decide +kernel) rfl), by decide +kernel⟩, (mem_big 806 (by decide +kernel) rfl)⟩
theorem fl_X7_20 : FLk RX7 20 7 3 := ⟨RX7, TX7, 26, rfl, inb_X7, by decide, Or.inl (mem_big 718 (by decide +kernel) rfl)⟩
theorem fl_X7_29 : FLk RX7 29 7 6 := ⟨RX7, TX7, 26, rfl, inb_X7, by decide, Or.inl (mem_big 721 (by decide +kernel) rfl)⟩
theorem fl_X7_32 : FLk RX7 32 7 7 := ⟨RX7, TX7, 26, rfl, inb_X7, by decide, Or.inl (mem_big 722 (by decide +kernel) rfl)⟩
theorem fp_X7_78 : FPk RX7 78 7 11 .int := ⟨RX7, TX7, 26, tyX7, rfl, inb_X7, by decide, tyX7_ok, nmX7, rfl, by decide +kernel, Or.inl (mem_big 726 (by decide +kernel) rfl)⟩
theorem fp_X7_81 : FPk RX7 81 7 12 .int := ⟨RX7, TX7, 26, tyX7, rfl, inb_X7, by decide, tyX7_ok, nmX7, rfl, by decide +kernel, Or.inl (mem_big 727 (by decide +kernel) rfl)⟩
theorem fl_X7_26 : FLk RX7 26 7 5 := ⟨RX7, TX7, 26, rfl, inb_X7, by decide, Or.inl (mem_big 720 (by decide +kernel) rfl)⟩
theorem fl_X7_23 : FLk RX7 23 7 4 := ⟨RX7, TX7, 26, rfl, inb_X7, by decide, Or.inl (mem_big 719 (by decide +kernel) rfl)⟩
theorem fl_X7_43 : FLk RX7 43 7 10 := ⟨RX7, TX7, 26, rfl, inb_X7, by decide, Or.inl (mem_big 725 (by decide +kernel) rfl)⟩
theorem fl_X7_78 : FLk RX7 78 7 11 := ⟨RX7, TX7, 26, rfl, inb_X7, by decide, Or.inl (mem_big 726 (by decide +kernel) rfl)⟩
theorem fl_X7_84 : FLk RX7 84 7 14 := ⟨RX7, TX7, 26, rfl, inb_X7, by decide, Or.inl (mem_big 729 (by decide +kernel) rfl)⟩
theorem fl_X7_46 : FLk RX7 46 7 13 := ⟨RX7, TX7, 26, rfl, inb_X7, by decide, Or.inl (mem_big 728 (by decide +kernel) rfl)⟩
theorem fl_X7_81 : FLk RX7 81 7 12 := ⟨RX7, TX7, 26, rfl, inb_X7, by decide, Or.inl (mem_big 727 (by decide +kernel) rfl)⟩
theorem ml_X7_87 : MLv RX7 87 yX7_isList cX7_isList 5 (some .boolean) 2 := ⟨⟨Or.inl (mem_big 827 (by decide +kernel) rfl), (mem_big 830 (by decide +kernel) rfl), (mem_big 110 (by decide +kernel) rfl), by decide +kernel⟩, (mem_big 829 (by decide +kernel) rfl), (mem_big 57 (by decide +kernel) rfl)⟩
theorem ml_X7_91 : MLv RX7 91 yX7_childMany cX7_childMany 2 (some .int) 1 := ⟨⟨Or.inl (mem_big 843 (by decide +kernel) rfl), (mem_big 846 (by decide +kernel) rfl), (mem_big 110 (by decide +kernel) rfl), by decide +kernel⟩, (mem_big 845 (by decide +kernel) rfl), (mem_big 61 (by decide +kernel) rfl)⟩
theorem ml_X7_94 : MLv RX7 94 yX7_begins cX7_begins 2 (some .int) 1 := ⟨⟨Or.inl (mem_big 878 (by decide +kernel) rfl), (mem_big 881 (by decide +kernel) rfl), (mem_big 110 (by decide +kernel) rfl), by decide +kernel⟩, (mem_big 880 (by decide +kernel) rfl), (mem_big 69 (by decide +kernel) rfl)⟩
theorem ml_X7_97 : MLv RX7 97 yX7_child cX7_child 3 (some .int) 2 := ⟨⟨Or.inl (mem_big 847 (by decide +kernel) rfl), (mem_big 850 (by decide +kernel) rfl), (mem_big 110 (by decide +kernel) rfl), by decide +kernel⟩, (mem_big 849 (by decide +kernel) rfl), (mem_big 62 (by decide +kernel) rfl)⟩
theorem ml_X7_101 : MLv RX7 101 yX7_behind cX7_behind 3 (some .int) 2 := ⟨⟨Or.inl (mem_big 882 (by decide +kernel) rfl), (mem_big 885 (by decide +kernel) rfl), (mem_big 110 (by decide +kernel) rfl), by decide +kernel⟩, (mem_big 884 (by decide +kernel) rfl), (mem_big 70 (by decide +kernel) rfl)⟩
theorem fp_X7_84 : FPk RX7 84 7 14 .int := ⟨RX7, TX7, 26, tyX7, rfl, inb_X7, by decide, tyX7_ok, nmX7, rfl, by decide +kernel, Or.inl (mem_big 729 (by decide +kernel) rfl)⟩
theorem fp_X7_104 : FPk RX7 104 7 15 .boolean := ⟨RX7, TX7, 26, tyX7, rfl, inb_X7, by decide, tyX7_ok, nmX7, rfl, by decide +kernel, Or.inl (mem_big 730 (by decide +kernel) rfl)⟩
theorem fl_X7_104 : FLk RX7 104 7 15 := ⟨RX7, TX7, 26, rfl, inb_X7, by decide, Or.inl (mem_big 730 (by decide +kernel) rfl)⟩
theorem ml_X7_111 : MLv RX7 111 yX7_isAhead cX7_isAhead 7 (some .boolean) 2 := ⟨⟨Or.inl (mem_big 874 (by decide +kernel) rfl), (mem_big 877 (by decide +kernel) rfl), (mem_big 110 (by decide +kernel) rfl), by decide +kernel⟩, (mem_big 876 (by decide +kernel) rfl), (mem_big 68 (by decide +kernel) rfl)⟩
theorem ml_X7_108 : MLs RX7 108 yX7_counter cX7_counter 1 (some .int) 1 := ⟨⟨Or.inl (mem_big 871 (by decide +kernel) rfl), (mem_big 873 (by decide +kernel) rfl), (mem_big 110 (by decide +kernel) rfl), by decide +kernel⟩, (mem_big 872 (by decide +kernel) rfl)⟩
theorem ml_X7_114 : MLv RX7 114 yX7_putOne cX7_putOne 7 none 2 := ⟨⟨Or.inl (mem_big 867 (by decide +kernel) rfl), (mem_big 870 (by decide +kernel) rfl), (mem_big 110 (by decide +kernel) rfl), by decide +kernel⟩, (mem_big 869 (by decide +kernel) rfl), (mem_big 67 (by decide +kernel) rfl)⟩
theorem ml_X7_118 : MLv RX7 118 yX7_makeList cX7_makeList 3 (some .int) 1 := ⟨⟨Or.inl (mem_big 823 (by decide +kernel) rfl), (mem_big 826 (by decide +kernel) rfl), (mem_big 110 (by decide +kernel) rfl), by decide +kernel⟩, (mem_big 825 (by decide +kernel) rfl), (mem_big 56 (by decide +kernel) rfl)⟩
theorem ml_X7_121 : MLv RX7 121 yX7_beginPut cX7_beginPut 1 none 0 := ⟨⟨Or.inl (mem_big 859 (by decide +kernel) rfl), (mem_big 862 (by decide +kernel) rfl), (mem_big 110 (by decide +kernel) rfl), by decide +kernel⟩, (mem_big 861 (by decide +kernel) rfl), (mem_big 65 (by decide +kernel) rfl)⟩
theorem ml_X7_124 : MLv RX7 124 yX7_putIn cX7_putIn 4 none 2 := ⟨⟨Or.inl (mem_big 863 (by decide +kernel) rfl), (mem_big 866 (by decide +kernel) rfl), (mem_big 110 (by decide +kernel) rfl), by decide +kernel⟩, (mem_big 865 (by decide +kernel) rfl), (mem_big 66 (by decide +kernel) rfl)⟩
theorem ml_X7_127 : MLv RX7 127 yX7_endPut cX7_endPut 3 (some .int) 1 := ⟨⟨Or.inl (mem_big 886 (by decide +kernel) rfl), (mem_big 889 (by decide +kernel) rfl), (mem_big 110 (by decide +kernel) rfl), by decide +kernel⟩, (mem_big 888 (by decide +kernel) rfl), (mem_big 71 (by decide +kernel) rfl)⟩
theorem fl_X7_38 : FLk RX7 38 7 9 := ⟨RX7, TX7, 26, rfl, inb_X7, by decide, Or.inl (mem_big 724 (by decide +kernel) rfl)⟩
theorem fl_X7_35 : FLk RX7 35 7 8 := ⟨RX7, TX7, 26, rfl, inb_X7, by decide, Or.inl (mem_big 723 (by decide +kernel) rfl)⟩
theorem ml_X7_134 : MLv RX7 134 yX7_step cX7_step 2 (some .int) 1 := ⟨⟨Or.inl (mem_big 851 (by decide +kernel) rfl), (mem_big 854 (by decide +kernel) rfl), (mem_big 110 (by decide +kernel) rfl), by decide +kernel⟩, (mem_big 853 (by decide +kernel) rfl), (mem_big 63 (by decide +kernel) rfl)⟩
theorem ml_X7_130 : MLv RX7 130 yX7_mark cX7_mark 4 none 1 := ⟨⟨Or.inl (mem_big 839 (by decide +kernel) rfl), (mem_big 842 (by decide +kernel) rfl), (mem_big 110 (by decide +kernel) rfl), by decide +kernel⟩, (mem_big 841 (by decide +kernel) rfl), (mem_big 60 (by decide +kernel) rfl)⟩
theorem ml_X7_137 : MLv RX7 137 yX7_both cX7_both 4 (some .int) 3 := ⟨⟨Or.inl (mem_big 855 (by decide +kernel) rfl), (mem_big 858 (by decide +kernel) rfl), (mem_big 110 (by decide +kernel) rfl), by decide +kernel⟩, (mem_big 857 (by decide +kernel) rfl), (mem_big 64 (by decide +kernel) rfl)⟩
theorem ml_X7_141 : MLv RX7 141 yX7_putAll cX7_putAll 4 (some .int) 2 := ⟨⟨Or.inl (mem_big 890 (by decide +kernel) rfl), (mem_big 893 (by decide +kernel) rfl), (mem_big 110 (by decide +kernel) rfl), by decide +kernel⟩, (mem_big 892 (by decide +kernel) rfl), (mem_big 72 (by decide +kernel) rfl)⟩
theorem ml_X7_144 : MLv RX7 144 yX7_turned cX7_turned 2 (some .int) 1 := ⟨⟨Or.inl (mem_big 976 (by decide +kernel) rfl), (mem_big 979 (by decide +kernel) rfl), (mem_big 110 (by decide +kernel) rfl), by decide +kernel⟩, (mem_big 978 (by decide +kernel) rfl), (mem_big 89 (by decide +kernel) rfl)⟩
theorem ml_X7_147 : MLv RX7 147 yX7_make cX7_make 5 (some .int) 3 := ⟨⟨Or.inl (mem_big 831 (by decide +kernel) rfl), (mem_big 834 (by decide +kernel) rfl), (mem_big 110 (by decide +kernel) rfl), by decide +kernel⟩, (mem_big 833 (by decide +kernel) rfl), (mem_big 58 (by decide +kernel) rfl)⟩
theorem ml_X7_150 : MLs RX7 150 yX7_cell cX7_cell 3 (some .int) 3 := ⟨⟨Or.inl (mem_big 820 (by decide +kernel) rfl), (mem_big 822 (by decide +kernel) rfl), (mem_big 110 (by decide +kernel) rfl), by decide +kernel⟩, (mem_big 821 (by decide +kernel) rfl)⟩
theorem ml_X7_62 : MLv RX7 62 yX7_empty cX7_empty 2 none 0 := ⟨⟨Or.inl (mem_big 711 (by decide +kernel) rfl), (mem_big 714 (by decide +kernel) rfl), (mem_big 110 (by decide +kernel) rfl), by decide +kernel⟩, (mem_big 713 (by decide +kernel) rfl), (mem_big 51 (by decide +kernel) rfl)⟩
theorem ml_X7_153 : MLv RX7 153 yX7_load cX7_load 7 (some .int) 2 := ⟨⟨Or.inl (mem_big 816 (by decide +kernel) rfl), (mem_big 819 (by decide +kernel) rfl), (mem_big 110 (by decide +kernel) rfl), by decide +kernel⟩, (mem_big 818 (by decide +kernel) rfl), (mem_big 55 (by decide +kernel) rfl)⟩
theorem ml_X7_156 : MLv RX7 156 yX7_formOf cX7_formOf 3 (some .int) 2 := ⟨⟨Or.inl (mem_big 927 (by decide +kernel) rfl), (mem_big 930 (by decide +kernel) rfl), (mem_big 110 (by decide +kernel) rfl), by decide +kernel⟩, (mem_big 929 (by decide +kernel) rfl), (mem_big 81 (by decide +kernel) rfl)⟩
theorem ml_X7_159 : MLv RX7 159 yX7_partsThat cX7_partsThat 5 (some .int) 2 := ⟨⟨Or.inl (mem_big 923 (by decide +kernel) rfl), (mem_big 926 (by decide +kernel) rfl), (mem_big 110 (by decide +kernel) rfl), by decide +kernel⟩, (mem_big 925 (by decide +kernel) rfl), (mem_big 80 (by decide +kernel) rfl)⟩
theorem ml_X7_165 : MLv RX7 165 yX7_loadAlone cX7_loadAlone 3 (some .int) 2 := ⟨⟨Or.inl (mem_big 812 (by decide +kernel) rfl), (mem_big 815 (by decide +kernel) rfl), (mem_big 110 (by decide +kernel) rfl), by decide +kernel⟩, (mem_big 814 (by decide +kernel) rfl), (mem_big 54 (by decide +kernel) rfl)⟩
theorem ml_X7_168 : MLv RX7 168 yX7_rewritten cX7_rewritten 5 (some .int) 2 := ⟨⟨Or.inl (mem_big 835 (by decide +kernel) rfl), (mem_big 838 (by decide +kernel) rfl), (mem_big 110 (by decide +kernel) rfl), by decide +kernel⟩, (mem_big 837 (by decide +kernel) rfl), (mem_big 59 (by decide +kernel) rfl)⟩
theorem ml_X7_162 : MLv RX7 162 yX7_verdict cX7_verdict 2 (some .int) 1 := ⟨⟨Or.inl (mem_big 903 (by decide +kernel) rfl), (mem_big 906 (by decide +kernel) rfl), (mem_big 110 (by decide +kernel) rfl), by decide +kernel⟩, (mem_big 905 (by decide +kernel) rfl), (mem_big 75 (by decide +kernel) rfl)⟩
theorem ml_X7_171 : MLv RX7 171 yX7_wouldBe cX7_wouldBe 7 (some .int) 2 := ⟨⟨Or.inl (mem_big 911 (by decide +kernel) rfl), (mem_big 914 (by decide +kernel) rfl), (mem_big 110 (by decide +kernel) rfl), by decide +kernel⟩, (mem_big 913 (by decide +kernel) rfl), (mem_big 77 (by decide +kernel) rfl)⟩
theorem ml_X7_174 : MLv RX7 174 yX7_isThere cX7_isThere 2 (some .boolean) 1 := ⟨⟨Or.inl (mem_big 808 (by decide +kernel) rfl), (mem_big 811 (by decide +kernel) rfl), (mem_big 110 (by decide +kernel) rfl), by decide +kernel⟩, (mem_big 810 (by decide +kernel) rfl), (mem_big 53 (by decide +kernel) rfl)⟩
theorem ml_X7_178 : MLv RX7 178 yX7_blame cX7_blame 5 (some .int) 2 := ⟨⟨Or.inl (mem_big 907 (by decide +kernel) rfl), (mem_big 910 (by decide +kernel) rfl), (mem_big 110 (by decide +kernel) rfl), by decide +kernel⟩, (mem_big 909 (by decide +kernel) rfl), (mem_big 76 (by decide +kernel) rfl)⟩
theorem ml_X7_185 : MLv RX7 185 yX7_verdictBy cX7_verdictBy 3 (some .int) 1 := ⟨⟨Or.inl (mem_big 919 (by decide +kernel) rfl), (mem_big 922 (by decide +kernel) rfl), (mem_big 110 (by decide +kernel) rfl), by decide +kernel⟩, (mem_big 921 (by decide +kernel) rfl), (mem_big 79 (by decide +kernel) rfl)⟩
theorem ml_X7_181 : MLv RX7 181 yX7_store cX7_store 9 none 3 := ⟨⟨Or.inl (mem_big 915 (by decide +kernel) rfl), (mem_big 918 (by decide +kernel) rfl), (mem_big 110 (by decide +kernel) rfl), by decide +kernel⟩, (mem_big 917 (by decide +kernel) rfl), (mem_big 78 (by decide +kernel) rfl)⟩
theorem ml_X7_194 : MLv RX7 194 yX7_happens cX7_happens 6 (some .int) 2 := ⟨⟨Or.inl (mem_big 899 (by decide +kernel) rfl), (mem_big 902 (by decide +kernel) rfl), (mem_big 110 (by decide +kernel) rfl), by decide +kernel⟩, (mem_big 901 (by decide +kernel) rfl), (mem_big 74 (by decide +kernel) rfl)⟩
theorem ml_X7_188 : MLv RX7 188 yX7_isTooGreat cX7_isTooGreat 5 (some .boolean) 1 := ⟨⟨Or.inl (mem_big 801 (by decide +kernel) rfl), (mem_big 804 (by decide +kernel) rfl), (mem_big 110 (by decide +kernel) rfl), by decide +kernel⟩, (mem_big 803 (by decide +kernel) rfl), (mem_big 52 (by decide +kernel) rfl)⟩
theorem ml_X7_191 : MLv RX7 191 yX7_record cX7_record 2 none 0 := ⟨⟨Or.inl (mem_big 894 (by decide +kernel) rfl), (mem_big 897 (by decide +kernel) rfl), (mem_big 110 (by decide +kernel) rfl), by decide +kernel⟩, (mem_big 896 (by decide +kernel) rfl), (mem_big 73 (by decide +kernel) rfl)⟩
theorem ml_X7_197 : MLv RX7 197 yX7_isTrue cX7_isTrue 5 (some .boolean) 1 := ⟨⟨Or.inl (mem_big 935 (by decide +kernel) rfl), (mem_big 938 (by decide +kernel) rfl), (mem_big 110 (by decide +kernel) rfl), by decide +kernel⟩, (mem_big 937 (by decide +kernel) rfl), (mem_big 82 (by decide +kernel) rfl)⟩
theorem fl_X7_200 : FLk RX7 200 7 23 := ⟨RX7, TX7, 26, rfl, inb_X7, by decide, Or.inl (mem_big 738 (by decide +kernel) rfl)⟩
theorem fl_X7_59 : FLk RX7 59 7 22 := ⟨RX7, TX7, 26, rfl, inb_X7, by decide, Or.inl (mem_big 737 (by decide +kernel) rfl)⟩
theorem ml_X7_210 : MLs RX7 210 yX7_rank cX7_rank 1 (some .int) 1 := ⟨⟨Or.inl (mem_big 953 (by decide +kernel) rfl), (mem_big 955 (by decide +kernel) rfl), (mem_big 110 (by decide +kernel) rfl), by decide +kernel⟩, (mem_big 954 (by decide +kernel) rfl)⟩
theorem ml_X7_203 : MLs RX7 203 yX7_isThing cX7_isThing 1 (some .boolean) 1 := ⟨⟨Or.inl (mem_big 947 (by decide +kernel) rfl), (mem_big 949 (by decide +kernel) rfl), (mem_big 110 (by decide +kernel) rfl), by decide +kernel⟩, (mem_big 948 (by decide +kernel) rfl)⟩
theorem ml_X7_207 : MLs RX7 207 yX7_isAheadSign cX7_isAheadSign 1 (some .boolean) 1 := ⟨⟨Or.inl (mem_big 950 (by decide +kernel) rfl), (mem_big 952 (by decide +kernel) rfl), (mem_big 110 (by decide +kernel) rfl), by decide +kernel⟩, (mem_big 951 (by decide +kernel) rfl)⟩
theorem fl_X7_214 : FLk RX7 214 7 19 := ⟨RX7, TX7, 26, rfl, inb_X7, by decide, Or.inl (mem_big 734 (by decide +kernel) rfl)⟩
theorem fl_X7_52 : FLk RX7 52 7 17 := ⟨RX7, TX7, 26, rfl, inb_X7, by decide, Or.inl (mem_big 732 (by decide +kernel) rfl)⟩
theorem fl_X7_49 : FLk RX7 49 7 16 := ⟨RX7, TX7, 26, rfl, inb_X7, by decide, Or.inl (mem_big 731 (by decide +kernel) rfl)⟩
theorem fl_X7_217 : FLk RX7 217 7 18 := ⟨RX7, TX7, 26, rfl, inb_X7, by decide, Or.inl (mem_big 733 (by decide +kernel) rfl)⟩
theorem fp_X7_214 : FPk RX7 214 7 19 .int := ⟨RX7, TX7, 26, tyX7, rfl, inb_X7, by decide, tyX7_ok, nmX7, rfl, by decide +kernel, Or.inl (mem_big 734 (by decide +kernel) rfl)⟩
theorem fp_X7_217 : FPk RX7 217 7 18 .int := ⟨RX7, TX7, 26, tyX7, rfl, inb_X7, by decide, tyX7_ok, nmX7, rfl, by decide +kernel, Or.inl (mem_big 733 (by decide +kernel) rfl)⟩
theorem ml_X7_220 : MLv RX7 220 yX7_opposite cX7_opposite 3 (some .int) 1 := ⟨⟨Or.inl (mem_big 972 (by decide +kernel) rfl), (mem_big 975 (by decide +kernel) rfl), (mem_big 110 (by decide +kernel) rfl), by decide +kernel⟩, (mem_big 974 (by decide +kernel) rfl), (mem_big 88 (by decide +kernel) rfl)⟩
theorem ml_X7_223 : MLv RX7 223 yX7_apply cX7_apply 4 none 0 := ⟨⟨Or.inl (mem_big 968 (by decide +kernel) rfl), (mem_big 971 (by decide +kernel) rfl), (mem_big 110 (by decide +kernel) rfl), by decide +kernel⟩, (mem_big 970 (by decide +kernel) rfl), (mem_big 87 (by decide +kernel) rfl)⟩
theorem ml_X7_226 : MLv RX7 226 yX7_applyAhead cX7_applyAhead 1 none 0 := ⟨⟨Or.inl (mem_big 964 (by decide +kernel) rfl), (mem_big 967 (by decide +kernel) rfl), (mem_big 110 (by decide +kernel) rfl), by decide +kernel⟩, (mem_big 966 (by decide +kernel) rfl), (mem_big 86 (by decide +kernel) rfl)⟩
theorem ml_X7_229 : MLv RX7 229 yX7_readOne cX7_readOne 2 none 1 := ⟨⟨Or.inl (mem_big 960 (by decide +kernel) rfl), (mem_big 963 (by decide +kernel) rfl), (mem_big 110 (by decide +kernel) rfl), by decide +kernel⟩, (mem_big 962 (by decide +kernel) rfl), (mem_big 85 (by decide +kernel) rfl)⟩
theorem ml_X7_236 : MLv RX7 236 yX7_partForm cX7_partForm 3 (some .int) 2 := ⟨⟨Or.inl (mem_big 988 (by decide +kernel) rfl), (mem_big 991 (by decide +kernel) rfl), (mem_big 110 (by decide +kernel) rfl), by decide +kernel⟩, (mem_big 990 (by decide +kernel) rfl), (mem_big 92 (by decide +kernel) rfl)⟩
theorem ml_X7_233 : MLv RX7 233 yX7_partMany cX7_partMany 2 (some .int) 1 := ⟨⟨Or.inl (mem_big 980 (by decide +kernel) rfl), (mem_big 983 (by decide +kernel) rfl), (mem_big 110 (by decide +kernel) rfl), by decide +kernel⟩, (mem_big 982 (by decide +kernel) rfl), (mem_big 90 (by decide +kernel) rfl)⟩
theorem ml_X7_239 : MLv RX7 239 yX7_faultOf cX7_faultOf 6 (some .int) 0 := ⟨⟨Or.inl (mem_big 943 (by decide +kernel) rfl), (mem_big 946 (by decide +kernel) rfl), (mem_big 110 (by decide +kernel) rfl), by decide +kernel⟩, (mem_big 945 (by decide +kernel) rfl), (mem_big 83 (by decide +kernel) rfl)⟩
theorem ml_X7_243 : MLv RX7 243 yX7_read cX7_read 2 (some .int) 0 := ⟨⟨Or.inl (mem_big 956 (by decide +kernel) rfl), (mem_big 959 (by decide +kernel) rfl), (mem_big 110 (by decide +kernel) rfl), by decide +kernel⟩, (mem_big 958 (by decide +kernel) rfl), (mem_big 84 (by decide +kernel) rfl)⟩
theorem ml_X7_246 : MLv RX7 246 yX7_comes cX7_comes 5 (some .int) 1 := ⟨⟨Or.inl (mem_big 984 (by decide +kernel) rfl), (mem_big 987 (by decide +kernel) rfl), (mem_big 110 (by decide +kernel) rfl), by decide +kernel⟩, (mem_big 986 (by decide +kernel) rfl), (mem_big 91 (by decide +kernel) rfl)⟩
theorem fl_X7_249 : FLk RX7 249 7 21 := ⟨RX7, TX7, 26, rfl, inb_X7, by decide, Or.inl (mem_big 736 (by decide +kernel) rfl)⟩
theorem fl_X7_56 : FLk RX7 56 7 20 := ⟨RX7, TX7, 26, rfl, inb_X7, by decide, Or.inl (mem_big 735 (by decide +kernel) rfl)⟩
theorem fp_X7_249 : FPk RX7 249 7 21 .int := ⟨RX7, TX7, 26, tyX7, rfl, inb_X7, by decide, tyX7_ok, nmX7, rfl, by decide +kernel, Or.inl (mem_big 736 (by decide +kernel) rfl)⟩
theorem ml_X7_252 : MLv RX7 252 yX7_allOf cX7_allOf 3 (some .int) 1 := ⟨⟨Or.inl (mem_big 996 (by decide +kernel) rfl), (mem_big 999 (by decide +kernel) rfl), (mem_big 110 (by decide +kernel) rfl), by decide +kernel⟩, (mem_big 998 (by decide +kernel) rfl), (mem_big 93 (by decide +kernel) rfl)⟩
theorem ml_X7_255 : MLv RX7 255 yX7_thereMany cX7_thereMany 3 (some .int) 0 := ⟨⟨Or.inl (mem_big 1004 (by decide +kernel) rfl), (mem_big 1007 (by decide +kernel) rfl), (mem_big 110 (by decide +kernel) rfl), by decide +kernel⟩, (mem_big 1006 (by decide +kernel) rfl), (mem_big 94 (by decide +kernel) rfl)⟩
theorem fp_X7_200 : FPk RX7 200 7 23 .int := ⟨RX7, TX7, 26, tyX7, rfl, inb_X7, by decide, tyX7_ok, nmX7, rfl, by decide +kernel, Or.inl (mem_big 738 (by decide +kernel) rfl)⟩
theorem fl_X7_17 : FLk RX7 17 7 2 := ⟨RX7, TX7, 26, rfl, inb_X7, by decide, Or.inl (mem_big 717 (by decide +kernel) rfl)⟩
theorem fp_X7_258 : FPk RX7 258 7 25 .boolean := ⟨RX7, TX7, 26, tyX7, rfl, inb_X7, by decide, tyX7_ok, nmX7, rfl, by decide +kernel, Or.inl (mem_big 740 (by decide +kernel) rfl)⟩
theorem fl_X7_258 : FLk RX7 258 7 25 := ⟨RX7, TX7, 26, rfl, inb_X7, by decide, Or.inl (mem_big 740 (by decide +kernel) rfl)⟩
theorem ml_X7_261 : MLv RX7 261 yX7_areTrue cX7_areTrue 4 (some .boolean) 1 := ⟨⟨Or.inl (mem_big 1032 (by decide +kernel) rfl), (mem_big 1035 (by decide +kernel) rfl), (mem_big 110 (by decide +kernel) rfl), by decide +kernel⟩, (mem_big 1034 (by decide +kernel) rfl), (mem_big 95 (by decide +kernel) rfl)⟩
theorem ml_X7_264 : MLv RX7 264 yX7_sizes cX7_sizes 4 (some .int) 1 := ⟨⟨Or.inl (mem_big 1036 (by decide +kernel) rfl), (mem_big 1039 (by decide +kernel) rfl), (mem_big 110 (by decide +kernel) rfl), by decide +kernel⟩, (mem_big 1038 (by decide +kernel) rfl), (mem_big 96 (by decide +kernel) rfl)⟩
theorem ml_X7_267 : MLv RX7 267 yX7_isPart cX7_isPart 3 (some .boolean) 2 := ⟨⟨Or.inl (mem_big 1044 (by decide +kernel) rfl), (mem_big 1047 (by decide +kernel) rfl), (mem_big 110 (by decide +kernel) rfl), by decide +kernel⟩, (mem_big 1046 (by decide +kernel) rfl), (mem_big 97 (by decide +kernel) rfl)⟩
theorem ml_X7_270 : MLv RX7 270 yX7_letterOf cX7_letterOf 6 (some .int) 2 := ⟨⟨Or.inl (mem_big 1048 (by decide +kernel) rfl), (mem_big 1051 (by decide +kernel) rfl), (mem_big 110 (by decide +kernel) rfl), by decide +kernel⟩, (mem_big 1050 (by decide +kernel) rfl), (mem_big 98 (by decide +kernel) rfl)⟩
theorem ml_X7_273 : MLv RX7 273 yX7_signs cX7_signs 4 (some .int) 1 := ⟨⟨Or.inl (mem_big 1056 (by decide +kernel) rfl), (mem_big 1059 (by decide +kernel) rfl), (mem_big 110 (by decide +kernel) rfl), by decide +kernel⟩, (mem_big 1058 (by decide +kernel) rfl), (mem_big 99 (by decide +kernel) rfl)⟩
theorem ml_X7_276 : MLv RX7 276 yX7_isOpen cX7_isOpen 2 (some .boolean) 1 := ⟨⟨Or.inl (mem_big 1072 (by decide +kernel) rfl), (mem_big 1075 (by decide +kernel) rfl), (mem_big 110 (by decide +kernel) rfl), by decide +kernel⟩, (mem_big 1074 (by decide +kernel) rfl), (mem_big 100 (by decide +kernel) rfl)⟩
theorem ml_X7_279 : MLv RX7 279 yX7_wishesThat cX7_wishesThat 4 (some .int) 1 := ⟨⟨Or.inl (mem_big 1084 (by decide +kernel) rfl), (mem_big 1087 (by decide +kernel) rfl), (mem_big 110 (by decide +kernel) rfl), by decide +kernel⟩, (mem_big 1086 (by decide +kernel) rfl), (mem_big 101 (by decide +kernel) rfl)⟩
