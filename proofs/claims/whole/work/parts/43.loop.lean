/-! THE LAW'S LOOP over a relation of the two memories -/
section LAWROWS
variable {l : Launch} {R : Room} {nL : Nat} {G : GL} {A : Nat → Prop} {Q : State → Prop} {X : CT} {cells slots : Nat} {ws : va_W} {L L' : List (Option Value)} {pc : Nat} {stk : List Value} {cc : ByteArray} {own : String}
theorem l_iadd (hX : CxL l R cc own nL G A X) {x y v : Int32} (hv : x + y = v) (hdg : decode cc pc = .ok (.iadd, 1)) (kk : KL l R nL G A Q X cells slots ws L (pc + 1) (.int v :: stk)) : KL l R nL G A Q X cells slots ws L pc (.int y :: .int x :: stk) := by
  subst hv
  exact KL.step (fun H locs ls hP hD hS hl h => lv_iadd hX.1 hX.2.1 hdg h) kk
theorem l_iand (hX : CxL l R cc own nL G A X) {x y : Int32} (hdg : decode cc pc = .ok (.iand, 1)) (kk : KL l R nL G A Q X cells slots ws L (pc + 1) (.int (x &&& y) :: stk)) : KL l R nL G A Q X cells slots ws L pc (.int y :: .int x :: stk) :=
  KL.step (fun H locs ls hP hD hS hl h => lv_iand hX.1 hX.2.1 hdg h) kk
theorem l_i2c (hX : CxL l R cc own nL G A X) {x : Int32} (hdg : decode cc pc = .ok (.i2c, 1)) (kk : KL l R nL G A Q X cells slots ws L (pc + 1) (.int (mi2c x) :: stk)) : KL l R nL G A Q X cells slots ws L pc (.int x :: stk) :=
  KL.step (fun H locs ls hP hD hS hl h => lv_i2c hX.1 hX.2.1 hdg rfl h) kk
theorem l_ifeq_t (hX : CxL l R cc own nL G A X) {x : Int32} {off : Int} {tgt : Nat} (hc : x = 0) (hdg : decode cc pc = .ok (.ifCond .eq off, 3)) (ht : (pc : Int) + off = (tgt : Int)) (kk : KL l R nL G A Q X cells slots ws L tgt stk) : KL l R nL G A Q X cells slots ws L pc (.int x :: stk) := KL.step (fun H locs ls hP hD hS hl h => lv_if_eq hX.1 hX.2.1 hdg ht (fun _ => h) (fun c => absurd hc c)) kk
theorem l_ifeq_f (hX : CxL l R cc own nL G A X) {x : Int32} {off : Int} {tgt : Nat} (hc : ¬ x = 0) (hdg : decode cc pc = .ok (.ifCond .eq off, 3)) (ht : (pc : Int) + off = (tgt : Int)) (kk : KL l R nL G A Q X cells slots ws L (pc + 3) stk) : KL l R nL G A Q X cells slots ws L pc (.int x :: stk) := KL.step (fun H locs ls hP hD hS hl h => lv_if_eq hX.1 hX.2.1 hdg ht (fun c => absurd c hc) (fun _ => h)) kk
theorem l_gt_t (hX : CxL l R cc own nL G A X) {x y : Int32} {off : Int} {tgt : Nat} (hc : y < x) (hdg : decode cc pc = .ok (.if_icmp .gt off, 3)) (ht : (pc : Int) + off = (tgt : Int)) (kk : KL l R nL G A Q X cells slots ws L tgt stk) : KL l R nL G A Q X cells slots ws L pc (.int y :: .int x :: stk) := KL.step (fun H locs ls hP hD hS hl h => lv_icmp_gt hX.1 hX.2.1 hdg ht (fun _ => h) (fun c => absurd hc c)) kk
theorem l_gt_f (hX : CxL l R cc own nL G A X) {x y : Int32} {off : Int} {tgt : Nat} (hc : ¬ y < x) (hdg : decode cc pc = .ok (.if_icmp .gt off, 3)) (ht : (pc : Int) + off = (tgt : Int)) (kk : KL l R nL G A Q X cells slots ws L (pc + 3) stk) : KL l R nL G A Q X cells slots ws L pc (.int y :: .int x :: stk) := KL.step (fun H locs ls hP hD hS hl h => lv_icmp_gt hX.1 hX.2.1 hdg ht (fun c => absurd c hc) (fun _ => h)) kk
theorem l_tabIn (hX : CxL l R cc own nL G A X) {dflt lo hi : Int} {offs : Array Int} {len : Nat} {x v : Int32} {off : Int} {tgt : Nat} (hv : x = v) (hdg : decode cc pc = .ok (.tableswitch dflt lo hi offs, len)) (h1 : ¬ v.toInt < lo) (h2 : ¬ hi < v.toInt) (ho : offs[(v.toInt - lo).toNat]? = some off) (ht : (pc : Int) + off = (tgt : Int)) (kk : KL l R nL G A Q X cells slots ws L tgt stk) : KL l R nL G A Q X cells slots ws L pc (.int x :: stk) := by
  subst hv
  exact KL.step (fun H locs ls hP hD hS hl h => lv_tableIn hX.1 hX.2.1 hdg h1 h2 ho ht h) kk
theorem l_tabOut (hX : CxL l R cc own nL G A X) {dflt lo hi : Int} {offs : Array Int} {len : Nat} {x : Int32} {tgt : Nat} (hdg : decode cc pc = .ok (.tableswitch dflt lo hi offs, len)) (h : x.toInt < lo ∨ hi < x.toInt) (ht : (pc : Int) + dflt = (tgt : Int)) (kk : KL l R nL G A Q X cells slots ws L tgt stk) : KL l R nL G A Q X cells slots ws L pc (.int x :: stk) := KL.step (fun H locs ls hP hD hS hl h' => lv_tableOut hX.1 hX.2.1 hdg h ht h') kk
theorem l_sld (hX : CxL l R cc own nL G A X) {b n : Nat} {xs : Nat → Int32} {i : Int32} (hB : va_X b n xs X.2.2.1 X.2.2.1.heap ∧ b < X.2.2.1.heap.size ∧ ¬ A b) (hin : vp_in i n) (hdg : decode cc pc = .ok (.iaload, 1)) (kk : KL l R nL G A Q X cells slots ws L (pc + 1) (.int (xs i.toNatClampNeg) :: stk)) : KL l R nL G A Q X cells slots ws L pc (.int i :: .ref b :: stk) := KL.step (fun H locs ls hP hD hS hl h => va_sld hX.1 hX.2.1 hB.1 hB.2.1 hB.2.2 hS hin hdg h) kk
theorem l_slen (hX : CxL l R cc own nL G A X) {b n : Nat} {xs : Nat → Int32} (hB : va_X b n xs X.2.2.1 X.2.2.1.heap ∧ b < X.2.2.1.heap.size ∧ ¬ A b) (hdg : decode cc pc = .ok (.arraylength, 1)) (kk : KL l R nL G A Q X cells slots ws L (pc + 1) (.int (nI n) :: stk)) : KL l R nL G A Q X cells slots ws L pc (.ref b :: stk) := KL.step (fun H locs ls hP hD hS hl h => va_slen hX.1 hX.2.1 hB.1 hB.2.1 hB.2.2 hS hdg h) kk
theorem l_widen {c' s' : Nat} (h1 : cells ≤ c') (h2 : slots ≤ s') (kk : KL l R nL G A Q X c' s' ws L pc stk) : KL l R nL G A Q X cells slots ws L pc stk := fun H locs ls hP hD hS hl => W.widen h1 h2 (kk H locs ls hP hD hS hl)
theorem l_callI (hX : CxL l R cc own nL G A X) (hA : A = G.2.2.1) {ad : Nat → Nat} {E : Mem → Nat → va_E} {M : Mem} {r : Rv} {index : Nat} {y : MethodName} {cy : ByteArray} {my : Nat} {ry : Option FieldType} {n fr lo ci c : Nat} {T : u_T} {N : Nat} {fs : (Nat → Int32) → List Value} {vs stk0 : List Value} (hM : Ct PostI l G ad E y cy my ry fr lo (.ref (ad c) :: vs) M r) (hO : isO E c ci fs) (hcl : vwCl[ci]? = some (y.cls, T, N)) (hw : MLv own index y cy my ry n) (hR : fr + 1 ≤ R.frames ∧ 8 + (my + 11) + lo ≤ R.locals) (hRc : cells + 0 ≤ R.cells ∧ slots + 0 ≤ R.slots) (hn : vs.length = n) (hst : stk0 = vs.reverse ++ .ref (ad c) :: stk) (hcat : (stk.map fun v => v.category).sum ≤ 8) (hAd : AdOK G ad) (hdg : decode cc pc = .ok (.invokevirtual index, 3)) (kk : KL l R nL G A Q X cells slots (wl ad (E r.2)) L (pc + 3) (.int r.1 :: stk)) : KL l R nL G A Q X cells slots (wl ad (E M)) L pc stk0 := by
  subst hA
  intro H locs ls hP hD hS hl
  have hrec := va_recv (q := (y.cls, T, N)) hX.2.2.2.2.2.1.1 hP hcl (q0 := c) (a := ad c) (fs := fs (M c)) (by rw [wl_at hO.1, hO.2])
  have hpre : ∀ U : State, U.heap = H → X.2.2.1.WarmedH U.vm → va_Pc (.ref (ad c) :: vs) (Pw G ad E M) (Value.ref (ad c) :: vs).toArray U := by
    intro U hU hW
    obtain ⟨hK, hN, hZ⟩ := hX.2.2.2.2.2.1
    refine ⟨rfl, by rw [hU]; exact hP, va_K.moved hW.alike hK, hN.warm hW, ?_⟩
    rw [hU]
    exact (hZ.kept (fun a h1 h2 => hS.2.1 a h1 h2)).moved hW.alike
  obtain ⟨⟨h1, h2, h3, h4⟩, h5, h6⟩ := hw
  have run : va_Run X.1 l X.2.1 R X.2.2.1 X.2.2.2.1 X.2.2.2.2.1 X.2.2.2.2.2.1 X.2.2.2.2.2.2.1 X.2.2.2.2.2.2.2 H locs cells slots 0 0 (F0 X.2.2.2.1 pc ls stk0) stk (PostI G ad E r (Value.ref (ad c) :: vs).toArray) G.2.2.1 := by
    rcases h1 with h1 | ⟨host, h1⟩
    · exact va_runV (nL := nL) ⟨hX.1, hX.2.1, hX.2.2.1, hX.2.2.2.1, hX.2.2.2.2.1⟩ hM ⟨callB_of (Ts := BIG) (ws' := BIG) n hX.2.2.2.2.1 (good_code h2) rfl rfl rfl (hX.2.2.2.2.1 _ h3) (hX.2.2.2.2.1 _ h1) h4 hR, hX.2.2.2.2.1 _ h5, hX.2.2.2.2.1 _ h6⟩ ⟨Pw.blind _, hrec, hpre⟩ rfl hn hl.1 hst (lv_room hcat) hdg hRc
    · exact va_runVN (nL := nL) ⟨hX.1, hX.2.1, hX.2.2.1, hX.2.2.2.1, hX.2.2.2.2.1⟩ hM ⟨va_cnB (Ts := BIG) (ws' := BIG) n hX.2.2.2.2.1 (good_code h2) rfl rfl rfl (hX.2.2.2.2.2.1.2.1.2 _ h1) (hX.2.2.2.2.1 _ h3) h4 hR, hX.2.2.2.2.1 _ h5, hX.2.2.2.2.1 _ h6⟩ ⟨Pw.blind _, hrec, hpre⟩ rfl hn hl.1 hst (lv_room hcat) hdg hRc
  refine va_calli run hS (fun q _ h => h) (fun q h => h) (fun v u t H1 locs1 ht _ hv hB _ _ hS1 => ?_)
  subst hv
  exact kk H1 locs1 ls (by rw [← ht]; exact hB) (AdOK.D hAd _) hS1 hl
end LAWROWS
/-- one call on both sides: the same answer, and the relation holds again -/
def stp (Rel : Mem → Mem → Prop) (f g : Mem → Option Rv) : Prop := ∀ MC MM, Rel MC MM → ∃ (v : Int32) (MC' MM' : Mem), f MC = some (v, MC') ∧ g MM = some (v, MM') ∧ Rel MC' MM'
def LawRel (Rel : Mem → Mem → Prop) : Prop := (∀ a0 : Int32, stp Rel (f_X6_event a0) (f_X7_event a0)) ∧ stp Rel f_X6_end f_X7_end ∧ stp Rel f_X6_addWish f_X7_addWish ∧ (∀ a0 a1 a2 : Int32, a2 = 0 ∨ a2 = 1 → stp Rel (f_X6_join a0 a1 a2) (f_X7_join a0 a1 a2)) ∧ (∀ a0 : Int32, stp Rel (f_X6_removeWish a0) (f_X7_removeWish a0)) ∧ (∀ a0 : Int32, stp Rel (f_X6_type (mi2c a0)) (f_X7_type (mi2c a0))) ∧ stp Rel f_X6_clearText f_X7_clearText ∧ stp Rel f_X6_undo f_X7_undo ∧ stp Rel f_X6_keep f_X7_keep ∧ stp Rel f_X6_restore f_X7_restore ∧ (∀ a0 a1 : Int32, stp Rel (f_X6_wish a0 a1) (f_X7_wish a0 a1)) ∧ (∀ a0 a1 a2 : Int32, stp Rel (f_X6_letter a0 a1 a2) (f_X7_letter a0 a1 a2)) ∧ (∀ a0 a1 a2 : Int32, stp Rel (f_X6_part a0 a1 a2) (f_X7_part a0 a1 a2)) ∧ (∀ a0 a1 : Int32, stp Rel (f_X6_would a0 a1) (f_X7_would a0 a1)) ∧ (∀ a0 a1 : Int32, stp Rel (f_X6_bears a0 a1) (f_X7_bears a0 a1)) ∧ (∀ a0 : Int32, stp Rel (f_X6_open a0) (f_X7_open a0)) ∧ (∀ a0 : Int32, stp Rel (f_X6_at a0) (f_X7_at a0)) ∧ (∀ a0 : Int32, stp Rel (f_X6_count a0) (f_X7_count a0))
theorem ml_L_13 : MLv RL 13 yX6_event cX6_event 7 (some .int) 1 := ⟨⟨Or.inl (mem_big 379 (by decide +kernel) rfl), (mem_big 382 (by decide +kernel) rfl), (mem_big 103 (by decide +kernel) rfl), by decide +kernel⟩, (mem_big 380 (by decide +kernel) rfl), (mem_big 381 (by decide +kernel) rfl)⟩
theorem ml_L_17 : MLv RL 17 yX7_event cX7_event 4 (some .int) 1 := ⟨⟨Or.inl (mem_big 794 (by decide +kernel) rfl), (mem_big 797 (by decide +kernel) rfl), (mem_big 110 (by decide +kernel) rfl), by decide +kernel⟩, (mem_big 795 (by decide +kernel) rfl), (mem_big 796 (by decide +kernel) rfl)⟩
theorem ml_L_18 : MLv RL 18 yX6_end cX6_end 5 (some .int) 0 := ⟨⟨Or.inl (mem_big 499 (by decide +kernel) rfl), (mem_big 502 (by decide +kernel) rfl), (mem_big 103 (by decide +kernel) rfl), by decide +kernel⟩, (mem_big 500 (by decide +kernel) rfl), (mem_big 501 (by decide +kernel) rfl)⟩
theorem ml_L_22 : MLv RL 22 yX7_end cX7_end 4 (some .int) 0 := ⟨⟨Or.inl (mem_big 931 (by decide +kernel) rfl), (mem_big 934 (by decide +kernel) rfl), (mem_big 110 (by decide +kernel) rfl), by decide +kernel⟩, (mem_big 932 (by decide +kernel) rfl), (mem_big 933 (by decide +kernel) rfl)⟩
theorem ml_L_23 : MLv RL 23 yX6_addWish cX6_addWish 2 (some .int) 0 := ⟨⟨Or.inl (mem_big 508 (by decide +kernel) rfl), (mem_big 511 (by decide +kernel) rfl), (mem_big 103 (by decide +kernel) rfl), by decide +kernel⟩, (mem_big 509 (by decide +kernel) rfl), (mem_big 510 (by decide +kernel) rfl)⟩
theorem ml_L_26 : MLv RL 26 yX7_addWish cX7_addWish 3 (some .int) 0 := ⟨⟨Or.inl (mem_big 939 (by decide +kernel) rfl), (mem_big 942 (by decide +kernel) rfl), (mem_big 110 (by decide +kernel) rfl), by decide +kernel⟩, (mem_big 940 (by decide +kernel) rfl), (mem_big 941 (by decide +kernel) rfl)⟩
theorem ml_L_27 : MLv RL 27 yX6_join cX6_join 8 (some .int) 3 := ⟨⟨Or.inl (mem_big 573 (by decide +kernel) rfl), (mem_big 576 (by decide +kernel) rfl), (mem_big 103 (by decide +kernel) rfl), by decide +kernel⟩, (mem_big 574 (by decide +kernel) rfl), (mem_big 575 (by decide +kernel) rfl)⟩
theorem ml_L_31 : MLv RL 31 yX7_join cX7_join 8 (some .int) 3 := ⟨⟨Or.inl (mem_big 992 (by decide +kernel) rfl), (mem_big 995 (by decide +kernel) rfl), (mem_big 110 (by decide +kernel) rfl), by decide +kernel⟩, (mem_big 993 (by decide +kernel) rfl), (mem_big 994 (by decide +kernel) rfl)⟩
theorem ml_L_32 : MLv RL 32 yX6_removeWish cX6_removeWish 3 (some .int) 1 := ⟨⟨Or.inl (mem_big 589 (by decide +kernel) rfl), (mem_big 592 (by decide +kernel) rfl), (mem_big 103 (by decide +kernel) rfl), by decide +kernel⟩, (mem_big 590 (by decide +kernel) rfl), (mem_big 591 (by decide +kernel) rfl)⟩
theorem ml_L_35 : MLv RL 35 yX7_removeWish cX7_removeWish 2 (some .int) 1 := ⟨⟨Or.inl (mem_big 1000 (by decide +kernel) rfl), (mem_big 1003 (by decide +kernel) rfl), (mem_big 110 (by decide +kernel) rfl), by decide +kernel⟩, (mem_big 1001 (by decide +kernel) rfl), (mem_big 1002 (by decide +kernel) rfl)⟩
theorem ml_L_36 : MLv RL 36 yX6_type cX6_type 2 (some .int) 1 := ⟨⟨Or.inl (mem_big 601 (by decide +kernel) rfl), (mem_big 604 (by decide +kernel) rfl), (mem_big 103 (by decide +kernel) rfl), by decide +kernel⟩, (mem_big 602 (by decide +kernel) rfl), (mem_big 603 (by decide +kernel) rfl)⟩
theorem ml_L_40 : MLv RL 40 yX7_type cX7_type 2 (some .int) 1 := ⟨⟨Or.inl (mem_big 1008 (by decide +kernel) rfl), (mem_big 1011 (by decide +kernel) rfl), (mem_big 110 (by decide +kernel) rfl), by decide +kernel⟩, (mem_big 1009 (by decide +kernel) rfl), (mem_big 1010 (by decide +kernel) rfl)⟩
theorem ml_L_41 : MLv RL 41 yX6_clearText cX6_clearText 2 (some .int) 0 := ⟨⟨Or.inl (mem_big 609 (by decide +kernel) rfl), (mem_big 612 (by decide +kernel) rfl), (mem_big 103 (by decide +kernel) rfl), by decide +kernel⟩, (mem_big 610 (by decide +kernel) rfl), (mem_big 611 (by decide +kernel) rfl)⟩
theorem ml_L_44 : MLv RL 44 yX7_clearText cX7_clearText 2 (some .int) 0 := ⟨⟨Or.inl (mem_big 1012 (by decide +kernel) rfl), (mem_big 1015 (by decide +kernel) rfl), (mem_big 110 (by decide +kernel) rfl), by decide +kernel⟩, (mem_big 1013 (by decide +kernel) rfl), (mem_big 1014 (by decide +kernel) rfl)⟩
theorem ml_L_45 : MLv RL 45 yX6_undo cX6_undo 2 (some .int) 0 := ⟨⟨Or.inl (mem_big 613 (by decide +kernel) rfl), (mem_big 616 (by decide +kernel) rfl), (mem_big 103 (by decide +kernel) rfl), by decide +kernel⟩, (mem_big 614 (by decide +kernel) rfl), (mem_big 615 (by decide +kernel) rfl)⟩
theorem ml_L_48 : MLv RL 48 yX7_undo cX7_undo 2 (some .int) 0 := ⟨⟨Or.inl (mem_big 1016 (by decide +kernel) rfl), (mem_big 1019 (by decide +kernel) rfl), (mem_big 110 (by decide +kernel) rfl), by decide +kernel⟩, (mem_big 1017 (by decide +kernel) rfl), (mem_big 1018 (by decide +kernel) rfl)⟩
theorem ml_L_49 : MLv RL 49 yX6_keep cX6_keep 1 (some .int) 0 := ⟨⟨Or.inl (mem_big 617 (by decide +kernel) rfl), (mem_big 620 (by decide +kernel) rfl), (mem_big 103 (by decide +kernel) rfl), by decide +kernel⟩, (mem_big 618 (by decide +kernel) rfl), (mem_big 619 (by decide +kernel) rfl)⟩
theorem ml_L_52 : MLv RL 52 yX7_keep cX7_keep 2 (some .int) 0 := ⟨⟨Or.inl (mem_big 1020 (by decide +kernel) rfl), (mem_big 1023 (by decide +kernel) rfl), (mem_big 110 (by decide +kernel) rfl), by decide +kernel⟩, (mem_big 1021 (by decide +kernel) rfl), (mem_big 1022 (by decide +kernel) rfl)⟩
theorem ml_L_53 : MLv RL 53 yX6_restore cX6_restore 1 (some .int) 0 := ⟨⟨Or.inl (mem_big 621 (by decide +kernel) rfl), (mem_big 624 (by decide +kernel) rfl), (mem_big 103 (by decide +kernel) rfl), by decide +kernel⟩, (mem_big 622 (by decide +kernel) rfl), (mem_big 623 (by decide +kernel) rfl)⟩
theorem ml_L_56 : MLv RL 56 yX7_restore cX7_restore 2 (some .int) 0 := ⟨⟨Or.inl (mem_big 1024 (by decide +kernel) rfl), (mem_big 1027 (by decide +kernel) rfl), (mem_big 110 (by decide +kernel) rfl), by decide +kernel⟩, (mem_big 1025 (by decide +kernel) rfl), (mem_big 1026 (by decide +kernel) rfl)⟩
theorem ml_L_57 : MLv RL 57 yX6_wish cX6_wish 4 (some .int) 2 := ⟨⟨Or.inl (mem_big 625 (by decide +kernel) rfl), (mem_big 628 (by decide +kernel) rfl), (mem_big 103 (by decide +kernel) rfl), by decide +kernel⟩, (mem_big 626 (by decide +kernel) rfl), (mem_big 627 (by decide +kernel) rfl)⟩
theorem ml_L_61 : MLv RL 61 yX7_wish cX7_wish 4 (some .int) 2 := ⟨⟨Or.inl (mem_big 1028 (by decide +kernel) rfl), (mem_big 1031 (by decide +kernel) rfl), (mem_big 110 (by decide +kernel) rfl), by decide +kernel⟩, (mem_big 1029 (by decide +kernel) rfl), (mem_big 1030 (by decide +kernel) rfl)⟩
theorem ml_L_62 : MLv RL 62 yX6_letter cX6_letter 6 (some .int) 3 := ⟨⟨Or.inl (mem_big 638 (by decide +kernel) rfl), (mem_big 641 (by decide +kernel) rfl), (mem_big 103 (by decide +kernel) rfl), by decide +kernel⟩, (mem_big 639 (by decide +kernel) rfl), (mem_big 640 (by decide +kernel) rfl)⟩
theorem ml_L_66 : MLv RL 66 yX7_letter cX7_letter 5 (some .int) 3 := ⟨⟨Or.inl (mem_big 1040 (by decide +kernel) rfl), (mem_big 1043 (by decide +kernel) rfl), (mem_big 110 (by decide +kernel) rfl), by decide +kernel⟩, (mem_big 1041 (by decide +kernel) rfl), (mem_big 1042 (by decide +kernel) rfl)⟩
theorem ml_L_67 : MLv RL 67 yX6_part cX6_part 5 (some .int) 3 := ⟨⟨Or.inl (mem_big 660 (by decide +kernel) rfl), (mem_big 663 (by decide +kernel) rfl), (mem_big 103 (by decide +kernel) rfl), by decide +kernel⟩, (mem_big 661 (by decide +kernel) rfl), (mem_big 662 (by decide +kernel) rfl)⟩
theorem ml_L_70 : MLv RL 70 yX7_part cX7_part 5 (some .int) 3 := ⟨⟨Or.inl (mem_big 1052 (by decide +kernel) rfl), (mem_big 1055 (by decide +kernel) rfl), (mem_big 110 (by decide +kernel) rfl), by decide +kernel⟩, (mem_big 1053 (by decide +kernel) rfl), (mem_big 1054 (by decide +kernel) rfl)⟩
theorem ml_L_71 : MLv RL 71 yX6_would cX6_would 4 (some .int) 2 := ⟨⟨Or.inl (mem_big 664 (by decide +kernel) rfl), (mem_big 667 (by decide +kernel) rfl), (mem_big 103 (by decide +kernel) rfl), by decide +kernel⟩, (mem_big 665 (by decide +kernel) rfl), (mem_big 666 (by decide +kernel) rfl)⟩
theorem ml_L_74 : MLv RL 74 yX7_would cX7_would 3 (some .int) 2 := ⟨⟨Or.inl (mem_big 1060 (by decide +kernel) rfl), (mem_big 1063 (by decide +kernel) rfl), (mem_big 110 (by decide +kernel) rfl), by decide +kernel⟩, (mem_big 1061 (by decide +kernel) rfl), (mem_big 1062 (by decide +kernel) rfl)⟩
theorem ml_L_75 : MLv RL 75 yX6_bears cX6_bears 7 (some .int) 2 := ⟨⟨Or.inl (mem_big 668 (by decide +kernel) rfl), (mem_big 671 (by decide +kernel) rfl), (mem_big 103 (by decide +kernel) rfl), by decide +kernel⟩, (mem_big 669 (by decide +kernel) rfl), (mem_big 670 (by decide +kernel) rfl)⟩
theorem ml_L_78 : MLv RL 78 yX7_bears cX7_bears 8 (some .int) 2 := ⟨⟨Or.inl (mem_big 1064 (by decide +kernel) rfl), (mem_big 1067 (by decide +kernel) rfl), (mem_big 110 (by decide +kernel) rfl), by decide +kernel⟩, (mem_big 1065 (by decide +kernel) rfl), (mem_big 1066 (by decide +kernel) rfl)⟩
theorem ml_L_79 : MLv RL 79 yX6_open cX6_open 3 (some .int) 1 := ⟨⟨Or.inl (mem_big 680 (by decide +kernel) rfl), (mem_big 683 (by decide +kernel) rfl), (mem_big 103 (by decide +kernel) rfl), by decide +kernel⟩, (mem_big 681 (by decide +kernel) rfl), (mem_big 682 (by decide +kernel) rfl)⟩
theorem ml_L_82 : MLv RL 82 yX7_open cX7_open 6 (some .int) 1 := ⟨⟨Or.inl (mem_big 1068 (by decide +kernel) rfl), (mem_big 1071 (by decide +kernel) rfl), (mem_big 110 (by decide +kernel) rfl), by decide +kernel⟩, (mem_big 1069 (by decide +kernel) rfl), (mem_big 1070 (by decide +kernel) rfl)⟩
theorem ml_L_83 : MLv RL 83 yX6_at cX6_at 2 (some .int) 1 := ⟨⟨Or.inl (mem_big 694 (by decide +kernel) rfl), (mem_big 697 (by decide +kernel) rfl), (mem_big 103 (by decide +kernel) rfl), by decide +kernel⟩, (mem_big 695 (by decide +kernel) rfl), (mem_big 696 (by decide +kernel) rfl)⟩
theorem ml_L_86 : MLv RL 86 yX7_at cX7_at 2 (some .int) 1 := ⟨⟨Or.inl (mem_big 1076 (by decide +kernel) rfl), (mem_big 1079 (by decide +kernel) rfl), (mem_big 110 (by decide +kernel) rfl), by decide +kernel⟩, (mem_big 1077 (by decide +kernel) rfl), (mem_big 1078 (by decide +kernel) rfl)⟩
theorem ml_L_87 : MLv RL 87 yX6_count cX6_count 2 (some .int) 1 := ⟨⟨Or.inl (mem_big 698 (by decide +kernel) rfl), (mem_big 701 (by decide +kernel) rfl), (mem_big 103 (by decide +kernel) rfl), by decide +kernel⟩, (mem_big 699 (by decide +kernel) rfl), (mem_big 700 (by decide +kernel) rfl)⟩
theorem ml_L_90 : MLv RL 90 yX7_count cX7_count 2 (some .int) 1 := ⟨⟨Or.inl (mem_big 1080 (by decide +kernel) rfl), (mem_big 1083 (by decide +kernel) rfl), (mem_big 110 (by decide +kernel) rfl), by decide +kernel⟩, (mem_big 1081 (by decide +kernel) rfl), (mem_big 1082 (by decide +kernel) rfl)⟩
theorem sub4 {n i : Nat} (hn : n ≤ 2048) (hi : i ≤ 4096) : (nI n - 4 < nI i) ↔ n < i + 4 := by
  rw [Int32.lt_iff_toInt_lt]
  have h1 : (nI n - 4).toInt = (n : Int) - 4 := pk_sub_toInt (a := n) (b := 4) (by omega) (by omega)
  have h2 : (nI i).toInt = (i : Int) := nI_toInt (by omega)
  rw [h1, h2]
  omega
theorem in_k {n i : Nat} (k : Nat) (hn : n ≤ 2048) (hk : i + k < n) : vp_in (nI i + nI k) n := by
  rw [nI_add]
  exact vp_in_nI hk (by omega)
set_option maxHeartbeats 40000000 in
set_option maxRecDepth 100000 in
/-- one round of the loop, from its switch on -/
theorem law_round {l : Launch} {G : GL} {ad : Nat → Nat} {X : CT} {Q : State → Prop} {b n i : Nat} {xs : Nat → Int32} {Rel : Mem → Mem → Prop} (hR : LawRel Rel) (hX : CxL l room_1 cL_law RL 4 G G.2.2.1 X) (hAG : G.2.2.1 = G.2.2.1) (hAd : AdOK G ad) (hB : va_X b n xs X.2.2.1 X.2.2.1.heap ∧ b < X.2.2.1.heap.size ∧ ¬ G.2.2.1 b) (hn : n ≤ 2048) (hi : i + 4 ≤ n) {MC MM : Mem} (hRel : Rel MC MM) (hnext : ∀ MC' MM', Rel MC' MM' → KL l room_1 4 G G.2.2.1 Q X 600000 7302250 (wl ad (EE ad G.2.1 MC' MM')) [some (.ref b), some (.ref (ad 0)), some (.ref (ad 218)), some (.int (nI i))] 582 []) : KL l room_1 4 G G.2.2.1 Q X 600000 7302250 (wl ad (EE ad G.2.1 MC MM)) [some (.ref b), some (.ref (ad 0)), some (.ref (ad 218)), some (.int (nI i))] 26 [] := by
  have hin0 : vp_in (nI i) n := vp_in_nI (by omega) (by omega)
  have hin1 : vp_in (nI i + 1) n := in_k 1 hn (by omega)
  have hin2 : vp_in (nI i + 2) n := in_k 2 hn (by omega)
  have hin3 : vp_in (nI i + 3) n := in_k 3 hn (by omega)
  refine l_aload_n hX (i := 0) rfl rfl dL_law_26 ?_
  refine l_iload_n hX (i := 3) rfl rfl dL_law_27 ?_
  refine l_sld hX hB hin0 dL_law_28 ?_
  refine l_bipush (v := 31) hX rfl dL_law_29 ?_
  refine l_iand hX dL_law_31 ?_
  by_cases b0 : xs (nI i).toNatClampNeg &&& 31 = 0
  · refine l_tabIn (tgt := 120) hX b0 dL_law_32 (by decide) (by decide) rfl (by decide) ?_
    obtain ⟨v, MC2, MM2, e1, e2, hRel2⟩ := (hR.1 (xs (nI i + 1).toNatClampNeg)) MC MM hRel
    refine l_aload_n hX (i := 1) rfl rfl dL_law_120 ?_
    refine l_aload_n hX (i := 0) rfl rfl dL_law_121 ?_
    refine l_iload_n hX (i := 3) rfl rfl dL_law_122 ?_
    refine l_iconst (v := 1) hX rfl dL_law_123 ?_
    refine l_iadd (v := nI i + 1) hX rfl dL_law_124 ?_
    refine l_sld hX hB hin1 dL_law_125 ?_
    refine KL.world (ws' := wl ad (EC G ad MM MC)) rfl ?_
    refine l_callI (c := 0) (vs := [.int (xs (nI i + 1).toNatClampNeg)]) hX hAG (m_X6_event hAd e1) io_0 rfl ml_L_13 ⟨Nat.le_of_ble_eq_true rfl, Nat.le_of_ble_eq_true rfl⟩ ⟨Nat.le_of_ble_eq_true rfl, Nat.le_of_ble_eq_true rfl⟩ rfl rfl (Nat.le_of_ble_eq_true rfl) hAd dL_law_126 ?_
    refine l_aload_n hX (i := 2) rfl rfl dL_law_129 ?_
    refine l_aload_n hX (i := 0) rfl rfl dL_law_130 ?_
    refine l_iload_n hX (i := 3) rfl rfl dL_law_131 ?_
    refine l_iconst (v := 1) hX rfl dL_law_132 ?_
    refine l_iadd (v := nI i + 1) hX rfl dL_law_133 ?_
    refine l_sld hX hB hin1 dL_law_134 ?_
    refine KL.world (ws' := wl ad (EM G ad MC2 MM)) rfl ?_
    refine l_callI (c := 218) (vs := [.int (xs (nI i + 1).toNatClampNeg)]) hX hAG (m_X7_event hAd e2) io_218 rfl ml_L_17 ⟨Nat.le_of_ble_eq_true rfl, Nat.le_of_ble_eq_true rfl⟩ ⟨Nat.le_of_ble_eq_true rfl, Nat.le_of_ble_eq_true rfl⟩ rfl rfl (Nat.le_of_ble_eq_true rfl) hAd dL_law_135 ?_
    refine l_eq_t (tgt := 582) hX rfl dL_law_138 (by decide) ?_
    exact hnext MC2 MM2 hRel2
  by_cases b1 : xs (nI i).toNatClampNeg &&& 31 = 1
  · refine l_tabIn (tgt := 143) hX b1 dL_law_32 (by decide) (by decide) rfl (by decide) ?_
    obtain ⟨v, MC2, MM2, e1, e2, hRel2⟩ := hR.2.1 MC MM hRel
    refine l_aload_n hX (i := 1) rfl rfl dL_law_143 ?_
    refine KL.world (ws' := wl ad (EC G ad MM MC)) rfl ?_
    refine l_callI (c := 0) (vs := []) hX hAG (m_X6_end hAd e1) io_0 rfl ml_L_18 ⟨Nat.le_of_ble_eq_true rfl, Nat.le_of_ble_eq_true rfl⟩ ⟨Nat.le_of_ble_eq_true rfl, Nat.le_of_ble_eq_true rfl⟩ rfl rfl (Nat.le_of_ble_eq_true rfl) hAd dL_law_144 ?_
    refine l_aload_n hX (i := 2) rfl rfl dL_law_147 ?_
    refine KL.world (ws' := wl ad (EM G ad MC2 MM)) rfl ?_
    refine l_callI (c := 218) (vs := []) hX hAG (m_X7_end hAd e2) io_218 rfl ml_L_22 ⟨Nat.le_of_ble_eq_true rfl, Nat.le_of_ble_eq_true rfl⟩ ⟨Nat.le_of_ble_eq_true rfl, Nat.le_of_ble_eq_true rfl⟩ rfl rfl (Nat.le_of_ble_eq_true rfl) hAd dL_law_148 ?_
    refine l_eq_t (tgt := 582) hX rfl dL_law_151 (by decide) ?_
    exact hnext MC2 MM2 hRel2
  by_cases b2 : xs (nI i).toNatClampNeg &&& 31 = 2
  · refine l_tabIn (tgt := 156) hX b2 dL_law_32 (by decide) (by decide) rfl (by decide) ?_
    obtain ⟨v, MC2, MM2, e1, e2, hRel2⟩ := hR.2.2.1 MC MM hRel
    refine l_aload_n hX (i := 1) rfl rfl dL_law_156 ?_
    refine KL.world (ws' := wl ad (EC G ad MM MC)) rfl ?_
    refine l_callI (c := 0) (vs := []) hX hAG (m_X6_addWish hAd e1) io_0 rfl ml_L_23 ⟨Nat.le_of_ble_eq_true rfl, Nat.le_of_ble_eq_true rfl⟩ ⟨Nat.le_of_ble_eq_true rfl, Nat.le_of_ble_eq_true rfl⟩ rfl rfl (Nat.le_of_ble_eq_true rfl) hAd dL_law_157 ?_
    refine l_aload_n hX (i := 2) rfl rfl dL_law_160 ?_
    refine KL.world (ws' := wl ad (EM G ad MC2 MM)) rfl ?_
    refine l_callI (c := 218) (vs := []) hX hAG (m_X7_addWish hAd e2) io_218 rfl ml_L_26 ⟨Nat.le_of_ble_eq_true rfl, Nat.le_of_ble_eq_true rfl⟩ ⟨Nat.le_of_ble_eq_true rfl, Nat.le_of_ble_eq_true rfl⟩ rfl rfl (Nat.le_of_ble_eq_true rfl) hAd dL_law_161 ?_
    refine l_eq_t (tgt := 582) hX rfl dL_law_164 (by decide) ?_
    exact hnext MC2 MM2 hRel2
  by_cases b3 : xs (nI i).toNatClampNeg &&& 31 = 3
  · refine l_tabIn (tgt := 169) hX b3 dL_law_32 (by decide) (by decide) rfl (by decide) ?_
    by_cases hz : xs (nI i + 3).toNatClampNeg = 0
    · obtain ⟨v, MC2, MM2, e1, e2, hRel2⟩ := (hR.2.2.2.1 (xs (nI i + 1).toNatClampNeg) (xs (nI i + 2).toNatClampNeg) 0 (Or.inl rfl)) MC MM hRel
      refine l_aload_n hX (i := 1) rfl rfl dL_law_169 ?_
      refine l_aload_n hX (i := 0) rfl rfl dL_law_170 ?_
      refine l_iload_n hX (i := 3) rfl rfl dL_law_171 ?_
      refine l_iconst (v := 1) hX rfl dL_law_172 ?_
      refine l_iadd (v := nI i + 1) hX rfl dL_law_173 ?_
      refine l_sld hX hB hin1 dL_law_174 ?_
      refine l_aload_n hX (i := 0) rfl rfl dL_law_175 ?_
      refine l_iload_n hX (i := 3) rfl rfl dL_law_176 ?_
      refine l_iconst (v := 2) hX rfl dL_law_177 ?_
      refine l_iadd (v := nI i + 2) hX rfl dL_law_178 ?_
      refine l_sld hX hB hin2 dL_law_179 ?_
      refine l_aload_n hX (i := 0) rfl rfl dL_law_180 ?_
      refine l_iload_n hX (i := 3) rfl rfl dL_law_181 ?_
      refine l_iconst (v := 3) hX rfl dL_law_182 ?_
      refine l_iadd (v := nI i + 3) hX rfl dL_law_183 ?_
      refine l_sld hX hB hin3 dL_law_184 ?_
      refine l_ifeq_t (tgt := 192) hX hz dL_law_185 (by decide) ?_
      refine l_iconst (v := 0) hX rfl dL_law_192 ?_
      refine KL.world (ws' := wl ad (EC G ad MM MC)) rfl ?_
      refine l_callI (c := 0) (vs := [.int (xs (nI i + 1).toNatClampNeg), .int (xs (nI i + 2).toNatClampNeg), .int 0]) hX hAG (m_X6_join hAd e1) io_0 rfl ml_L_27 ⟨Nat.le_of_ble_eq_true rfl, Nat.le_of_ble_eq_true rfl⟩ ⟨Nat.le_of_ble_eq_true rfl, Nat.le_of_ble_eq_true rfl⟩ rfl rfl (Nat.le_of_ble_eq_true rfl) hAd dL_law_193 ?_
      refine l_aload_n hX (i := 2) rfl rfl dL_law_196 ?_
      refine l_aload_n hX (i := 0) rfl rfl dL_law_197 ?_
      refine l_iload_n hX (i := 3) rfl rfl dL_law_198 ?_
      refine l_iconst (v := 1) hX rfl dL_law_199 ?_
      refine l_iadd (v := nI i + 1) hX rfl dL_law_200 ?_
      refine l_sld hX hB hin1 dL_law_201 ?_
      refine l_aload_n hX (i := 0) rfl rfl dL_law_202 ?_
      refine l_iload_n hX (i := 3) rfl rfl dL_law_203 ?_
      refine l_iconst (v := 2) hX rfl dL_law_204 ?_
      refine l_iadd (v := nI i + 2) hX rfl dL_law_205 ?_
      refine l_sld hX hB hin2 dL_law_206 ?_
      refine l_aload_n hX (i := 0) rfl rfl dL_law_207 ?_
      refine l_iload_n hX (i := 3) rfl rfl dL_law_208 ?_
      refine l_iconst (v := 3) hX rfl dL_law_209 ?_
      refine l_iadd (v := nI i + 3) hX rfl dL_law_210 ?_
      refine l_sld hX hB hin3 dL_law_211 ?_
      refine l_ifeq_t (tgt := 219) hX hz dL_law_212 (by decide) ?_
      refine l_iconst (v := 0) hX rfl dL_law_219 ?_
      refine KL.world (ws' := wl ad (EM G ad MC2 MM)) rfl ?_
      refine l_callI (c := 218) (vs := [.int (xs (nI i + 1).toNatClampNeg), .int (xs (nI i + 2).toNatClampNeg), .int 0]) hX hAG (m_X7_join hAd e2) io_218 rfl ml_L_31 ⟨Nat.le_of_ble_eq_true rfl, Nat.le_of_ble_eq_true rfl⟩ ⟨Nat.le_of_ble_eq_true rfl, Nat.le_of_ble_eq_true rfl⟩ rfl rfl (Nat.le_of_ble_eq_true rfl) hAd dL_law_220 ?_
      refine l_eq_t (tgt := 582) hX rfl dL_law_223 (by decide) ?_
      exact hnext MC2 MM2 hRel2
    · obtain ⟨v, MC2, MM2, e1, e2, hRel2⟩ := (hR.2.2.2.1 (xs (nI i + 1).toNatClampNeg) (xs (nI i + 2).toNatClampNeg) 1 (Or.inr rfl)) MC MM hRel
      refine l_aload_n hX (i := 1) rfl rfl dL_law_169 ?_
      refine l_aload_n hX (i := 0) rfl rfl dL_law_170 ?_
      refine l_iload_n hX (i := 3) rfl rfl dL_law_171 ?_
      refine l_iconst (v := 1) hX rfl dL_law_172 ?_
      refine l_iadd (v := nI i + 1) hX rfl dL_law_173 ?_
      refine l_sld hX hB hin1 dL_law_174 ?_
      refine l_aload_n hX (i := 0) rfl rfl dL_law_175 ?_
      refine l_iload_n hX (i := 3) rfl rfl dL_law_176 ?_
      refine l_iconst (v := 2) hX rfl dL_law_177 ?_
      refine l_iadd (v := nI i + 2) hX rfl dL_law_178 ?_
      refine l_sld hX hB hin2 dL_law_179 ?_
      refine l_aload_n hX (i := 0) rfl rfl dL_law_180 ?_
      refine l_iload_n hX (i := 3) rfl rfl dL_law_181 ?_
      refine l_iconst (v := 3) hX rfl dL_law_182 ?_
      refine l_iadd (v := nI i + 3) hX rfl dL_law_183 ?_
      refine l_sld hX hB hin3 dL_law_184 ?_
      refine l_ifeq_f (tgt := 192) hX hz dL_law_185 (by decide) ?_
      refine l_iconst (v := 1) hX rfl dL_law_188 ?_
      refine l_goto (tgt := 193) hX dL_law_189 (by decide) ?_
      refine KL.world (ws' := wl ad (EC G ad MM MC)) rfl ?_
      refine l_callI (c := 0) (vs := [.int (xs (nI i + 1).toNatClampNeg), .int (xs (nI i + 2).toNatClampNeg), .int 1]) hX hAG (m_X6_join hAd e1) io_0 rfl ml_L_27 ⟨Nat.le_of_ble_eq_true rfl, Nat.le_of_ble_eq_true rfl⟩ ⟨Nat.le_of_ble_eq_true rfl, Nat.le_of_ble_eq_true rfl⟩ rfl rfl (Nat.le_of_ble_eq_true rfl) hAd dL_law_193 ?_
      refine l_aload_n hX (i := 2) rfl rfl dL_law_196 ?_
      refine l_aload_n hX (i := 0) rfl rfl dL_law_197 ?_
      refine l_iload_n hX (i := 3) rfl rfl dL_law_198 ?_
      refine l_iconst (v := 1) hX rfl dL_law_199 ?_
      refine l_iadd (v := nI i + 1) hX rfl dL_law_200 ?_
      refine l_sld hX hB hin1 dL_law_201 ?_
      refine l_aload_n hX (i := 0) rfl rfl dL_law_202 ?_
      refine l_iload_n hX (i := 3) rfl rfl dL_law_203 ?_
      refine l_iconst (v := 2) hX rfl dL_law_204 ?_
      refine l_iadd (v := nI i + 2) hX rfl dL_law_205 ?_
      refine l_sld hX hB hin2 dL_law_206 ?_
      refine l_aload_n hX (i := 0) rfl rfl dL_law_207 ?_
      refine l_iload_n hX (i := 3) rfl rfl dL_law_208 ?_
      refine l_iconst (v := 3) hX rfl dL_law_209 ?_
      refine l_iadd (v := nI i + 3) hX rfl dL_law_210 ?_
      refine l_sld hX hB hin3 dL_law_211 ?_
      refine l_ifeq_f (tgt := 219) hX hz dL_law_212 (by decide) ?_
      refine l_iconst (v := 1) hX rfl dL_law_215 ?_
      refine l_goto (tgt := 220) hX dL_law_216 (by decide) ?_
      refine KL.world (ws' := wl ad (EM G ad MC2 MM)) rfl ?_
      refine l_callI (c := 218) (vs := [.int (xs (nI i + 1).toNatClampNeg), .int (xs (nI i + 2).toNatClampNeg), .int 1]) hX hAG (m_X7_join hAd e2) io_218 rfl ml_L_31 ⟨Nat.le_of_ble_eq_true rfl, Nat.le_of_ble_eq_true rfl⟩ ⟨Nat.le_of_ble_eq_true rfl, Nat.le_of_ble_eq_true rfl⟩ rfl rfl (Nat.le_of_ble_eq_true rfl) hAd dL_law_220 ?_
      refine l_eq_t (tgt := 582) hX rfl dL_law_223 (by decide) ?_
      exact hnext MC2 MM2 hRel2
  by_cases b4 : xs (nI i).toNatClampNeg &&& 31 = 4
  · refine l_tabIn (tgt := 228) hX b4 dL_law_32 (by decide) (by decide) rfl (by decide) ?_
    obtain ⟨v, MC2, MM2, e1, e2, hRel2⟩ := (hR.2.2.2.2.1 (xs (nI i + 1).toNatClampNeg)) MC MM hRel
    refine l_aload_n hX (i := 1) rfl rfl dL_law_228 ?_
    refine l_aload_n hX (i := 0) rfl rfl dL_law_229 ?_
    refine l_iload_n hX (i := 3) rfl rfl dL_law_230 ?_
    refine l_iconst (v := 1) hX rfl dL_law_231 ?_
    refine l_iadd (v := nI i + 1) hX rfl dL_law_232 ?_
    refine l_sld hX hB hin1 dL_law_233 ?_
    refine KL.world (ws' := wl ad (EC G ad MM MC)) rfl ?_
    refine l_callI (c := 0) (vs := [.int (xs (nI i + 1).toNatClampNeg)]) hX hAG (m_X6_removeWish hAd e1) io_0 rfl ml_L_32 ⟨Nat.le_of_ble_eq_true rfl, Nat.le_of_ble_eq_true rfl⟩ ⟨Nat.le_of_ble_eq_true rfl, Nat.le_of_ble_eq_true rfl⟩ rfl rfl (Nat.le_of_ble_eq_true rfl) hAd dL_law_234 ?_
    refine l_aload_n hX (i := 2) rfl rfl dL_law_237 ?_
    refine l_aload_n hX (i := 0) rfl rfl dL_law_238 ?_
    refine l_iload_n hX (i := 3) rfl rfl dL_law_239 ?_
    refine l_iconst (v := 1) hX rfl dL_law_240 ?_
    refine l_iadd (v := nI i + 1) hX rfl dL_law_241 ?_
    refine l_sld hX hB hin1 dL_law_242 ?_
    refine KL.world (ws' := wl ad (EM G ad MC2 MM)) rfl ?_
    refine l_callI (c := 218) (vs := [.int (xs (nI i + 1).toNatClampNeg)]) hX hAG (m_X7_removeWish hAd e2) io_218 rfl ml_L_35 ⟨Nat.le_of_ble_eq_true rfl, Nat.le_of_ble_eq_true rfl⟩ ⟨Nat.le_of_ble_eq_true rfl, Nat.le_of_ble_eq_true rfl⟩ rfl rfl (Nat.le_of_ble_eq_true rfl) hAd dL_law_243 ?_
    refine l_eq_t (tgt := 582) hX rfl dL_law_246 (by decide) ?_
    exact hnext MC2 MM2 hRel2
  by_cases b5 : xs (nI i).toNatClampNeg &&& 31 = 5
  · refine l_tabIn (tgt := 251) hX b5 dL_law_32 (by decide) (by decide) rfl (by decide) ?_
    obtain ⟨v, MC2, MM2, e1, e2, hRel2⟩ := (hR.2.2.2.2.2.1 (xs (nI i + 1).toNatClampNeg)) MC MM hRel
    refine l_aload_n hX (i := 1) rfl rfl dL_law_251 ?_
    refine l_aload_n hX (i := 0) rfl rfl dL_law_252 ?_
    refine l_iload_n hX (i := 3) rfl rfl dL_law_253 ?_
    refine l_iconst (v := 1) hX rfl dL_law_254 ?_
    refine l_iadd (v := nI i + 1) hX rfl dL_law_255 ?_
    refine l_sld hX hB hin1 dL_law_256 ?_
    refine l_i2c hX dL_law_257 ?_
    refine KL.world (ws' := wl ad (EC G ad MM MC)) rfl ?_
    refine l_callI (c := 0) (vs := [.int (mi2c ((xs (nI i + 1).toNatClampNeg)))]) hX hAG (m_X6_type hAd e1) io_0 rfl ml_L_36 ⟨Nat.le_of_ble_eq_true rfl, Nat.le_of_ble_eq_true rfl⟩ ⟨Nat.le_of_ble_eq_true rfl, Nat.le_of_ble_eq_true rfl⟩ rfl rfl (Nat.le_of_ble_eq_true rfl) hAd dL_law_258 ?_
    refine l_aload_n hX (i := 2) rfl rfl dL_law_261 ?_
    refine l_aload_n hX (i := 0) rfl rfl dL_law_262 ?_
    refine l_iload_n hX (i := 3) rfl rfl dL_law_263 ?_
    refine l_iconst (v := 1) hX rfl dL_law_264 ?_
    refine l_iadd (v := nI i + 1) hX rfl dL_law_265 ?_
    refine l_sld hX hB hin1 dL_law_266 ?_
    refine l_i2c hX dL_law_267 ?_
    refine KL.world (ws' := wl ad (EM G ad MC2 MM)) rfl ?_
    refine l_callI (c := 218) (vs := [.int (mi2c ((xs (nI i + 1).toNatClampNeg)))]) hX hAG (m_X7_type hAd e2) io_218 rfl ml_L_40 ⟨Nat.le_of_ble_eq_true rfl, Nat.le_of_ble_eq_true rfl⟩ ⟨Nat.le_of_ble_eq_true rfl, Nat.le_of_ble_eq_true rfl⟩ rfl rfl (Nat.le_of_ble_eq_true rfl) hAd dL_law_268 ?_
    refine l_eq_t (tgt := 582) hX rfl dL_law_271 (by decide) ?_
    exact hnext MC2 MM2 hRel2
  by_cases b6 : xs (nI i).toNatClampNeg &&& 31 = 6
  · refine l_tabIn (tgt := 276) hX b6 dL_law_32 (by decide) (by decide) rfl (by decide) ?_
    obtain ⟨v, MC2, MM2, e1, e2, hRel2⟩ := hR.2.2.2.2.2.2.1 MC MM hRel
    refine l_aload_n hX (i := 1) rfl rfl dL_law_276 ?_
    refine KL.world (ws' := wl ad (EC G ad MM MC)) rfl ?_
    refine l_callI (c := 0) (vs := []) hX hAG (m_X6_clearText hAd e1) io_0 rfl ml_L_41 ⟨Nat.le_of_ble_eq_true rfl, Nat.le_of_ble_eq_true rfl⟩ ⟨Nat.le_of_ble_eq_true rfl, Nat.le_of_ble_eq_true rfl⟩ rfl rfl (Nat.le_of_ble_eq_true rfl) hAd dL_law_277 ?_
    refine l_aload_n hX (i := 2) rfl rfl dL_law_280 ?_
    refine KL.world (ws' := wl ad (EM G ad MC2 MM)) rfl ?_
    refine l_callI (c := 218) (vs := []) hX hAG (m_X7_clearText hAd e2) io_218 rfl ml_L_44 ⟨Nat.le_of_ble_eq_true rfl, Nat.le_of_ble_eq_true rfl⟩ ⟨Nat.le_of_ble_eq_true rfl, Nat.le_of_ble_eq_true rfl⟩ rfl rfl (Nat.le_of_ble_eq_true rfl) hAd dL_law_281 ?_
    refine l_eq_t (tgt := 582) hX rfl dL_law_284 (by decide) ?_
    exact hnext MC2 MM2 hRel2
  by_cases b7 : xs (nI i).toNatClampNeg &&& 31 = 7
  · refine l_tabIn (tgt := 289) hX b7 dL_law_32 (by decide) (by decide) rfl (by decide) ?_
    obtain ⟨v, MC2, MM2, e1, e2, hRel2⟩ := hR.2.2.2.2.2.2.2.1 MC MM hRel
    refine l_aload_n hX (i := 1) rfl rfl dL_law_289 ?_
    refine KL.world (ws' := wl ad (EC G ad MM MC)) rfl ?_
    refine l_callI (c := 0) (vs := []) hX hAG (m_X6_undo hAd e1) io_0 rfl ml_L_45 ⟨Nat.le_of_ble_eq_true rfl, Nat.le_of_ble_eq_true rfl⟩ ⟨Nat.le_of_ble_eq_true rfl, Nat.le_of_ble_eq_true rfl⟩ rfl rfl (Nat.le_of_ble_eq_true rfl) hAd dL_law_290 ?_
    refine l_aload_n hX (i := 2) rfl rfl dL_law_293 ?_
    refine KL.world (ws' := wl ad (EM G ad MC2 MM)) rfl ?_
    refine l_callI (c := 218) (vs := []) hX hAG (m_X7_undo hAd e2) io_218 rfl ml_L_48 ⟨Nat.le_of_ble_eq_true rfl, Nat.le_of_ble_eq_true rfl⟩ ⟨Nat.le_of_ble_eq_true rfl, Nat.le_of_ble_eq_true rfl⟩ rfl rfl (Nat.le_of_ble_eq_true rfl) hAd dL_law_294 ?_
    refine l_eq_t (tgt := 582) hX rfl dL_law_297 (by decide) ?_
    exact hnext MC2 MM2 hRel2
  by_cases b8 : xs (nI i).toNatClampNeg &&& 31 = 8
  · refine l_tabIn (tgt := 302) hX b8 dL_law_32 (by decide) (by decide) rfl (by decide) ?_
    obtain ⟨v, MC2, MM2, e1, e2, hRel2⟩ := hR.2.2.2.2.2.2.2.2.1 MC MM hRel
    refine l_aload_n hX (i := 1) rfl rfl dL_law_302 ?_
    refine KL.world (ws' := wl ad (EC G ad MM MC)) rfl ?_
    refine l_callI (c := 0) (vs := []) hX hAG (m_X6_keep hAd e1) io_0 rfl ml_L_49 ⟨Nat.le_of_ble_eq_true rfl, Nat.le_of_ble_eq_true rfl⟩ ⟨Nat.le_of_ble_eq_true rfl, Nat.le_of_ble_eq_true rfl⟩ rfl rfl (Nat.le_of_ble_eq_true rfl) hAd dL_law_303 ?_
    refine l_aload_n hX (i := 2) rfl rfl dL_law_306 ?_
    refine KL.world (ws' := wl ad (EM G ad MC2 MM)) rfl ?_
    refine l_callI (c := 218) (vs := []) hX hAG (m_X7_keep hAd e2) io_218 rfl ml_L_52 ⟨Nat.le_of_ble_eq_true rfl, Nat.le_of_ble_eq_true rfl⟩ ⟨Nat.le_of_ble_eq_true rfl, Nat.le_of_ble_eq_true rfl⟩ rfl rfl (Nat.le_of_ble_eq_true rfl) hAd dL_law_307 ?_
    refine l_eq_t (tgt := 582) hX rfl dL_law_310 (by decide) ?_
    exact hnext MC2 MM2 hRel2
  by_cases b9 : xs (nI i).toNatClampNeg &&& 31 = 9
  · refine l_tabIn (tgt := 315) hX b9 dL_law_32 (by decide) (by decide) rfl (by decide) ?_
    obtain ⟨v, MC2, MM2, e1, e2, hRel2⟩ := hR.2.2.2.2.2.2.2.2.2.1 MC MM hRel
    refine l_aload_n hX (i := 1) rfl rfl dL_law_315 ?_
    refine KL.world (ws' := wl ad (EC G ad MM MC)) rfl ?_
    refine l_callI (c := 0) (vs := []) hX hAG (m_X6_restore hAd e1) io_0 rfl ml_L_53 ⟨Nat.le_of_ble_eq_true rfl, Nat.le_of_ble_eq_true rfl⟩ ⟨Nat.le_of_ble_eq_true rfl, Nat.le_of_ble_eq_true rfl⟩ rfl rfl (Nat.le_of_ble_eq_true rfl) hAd dL_law_316 ?_
    refine l_aload_n hX (i := 2) rfl rfl dL_law_319 ?_
    refine KL.world (ws' := wl ad (EM G ad MC2 MM)) rfl ?_
    refine l_callI (c := 218) (vs := []) hX hAG (m_X7_restore hAd e2) io_218 rfl ml_L_56 ⟨Nat.le_of_ble_eq_true rfl, Nat.le_of_ble_eq_true rfl⟩ ⟨Nat.le_of_ble_eq_true rfl, Nat.le_of_ble_eq_true rfl⟩ rfl rfl (Nat.le_of_ble_eq_true rfl) hAd dL_law_320 ?_
    refine l_eq_t (tgt := 582) hX rfl dL_law_323 (by decide) ?_
    exact hnext MC2 MM2 hRel2
  by_cases b10 : xs (nI i).toNatClampNeg &&& 31 = 10
  · refine l_tabIn (tgt := 328) hX b10 dL_law_32 (by decide) (by decide) rfl (by decide) ?_
    obtain ⟨v, MC2, MM2, e1, e2, hRel2⟩ := (hR.2.2.2.2.2.2.2.2.2.2.1 (xs (nI i + 1).toNatClampNeg) (xs (nI i + 2).toNatClampNeg)) MC MM hRel
    refine l_aload_n hX (i := 1) rfl rfl dL_law_328 ?_
    refine l_aload_n hX (i := 0) rfl rfl dL_law_329 ?_
    refine l_iload_n hX (i := 3) rfl rfl dL_law_330 ?_
    refine l_iconst (v := 1) hX rfl dL_law_331 ?_
    refine l_iadd (v := nI i + 1) hX rfl dL_law_332 ?_
    refine l_sld hX hB hin1 dL_law_333 ?_
    refine l_aload_n hX (i := 0) rfl rfl dL_law_334 ?_
    refine l_iload_n hX (i := 3) rfl rfl dL_law_335 ?_
    refine l_iconst (v := 2) hX rfl dL_law_336 ?_
    refine l_iadd (v := nI i + 2) hX rfl dL_law_337 ?_
    refine l_sld hX hB hin2 dL_law_338 ?_
    refine KL.world (ws' := wl ad (EC G ad MM MC)) rfl ?_
    refine l_callI (c := 0) (vs := [.int (xs (nI i + 1).toNatClampNeg), .int (xs (nI i + 2).toNatClampNeg)]) hX hAG (m_X6_wish hAd e1) io_0 rfl ml_L_57 ⟨Nat.le_of_ble_eq_true rfl, Nat.le_of_ble_eq_true rfl⟩ ⟨Nat.le_of_ble_eq_true rfl, Nat.le_of_ble_eq_true rfl⟩ rfl rfl (Nat.le_of_ble_eq_true rfl) hAd dL_law_339 ?_
    refine l_aload_n hX (i := 2) rfl rfl dL_law_342 ?_
    refine l_aload_n hX (i := 0) rfl rfl dL_law_343 ?_
    refine l_iload_n hX (i := 3) rfl rfl dL_law_344 ?_
    refine l_iconst (v := 1) hX rfl dL_law_345 ?_
    refine l_iadd (v := nI i + 1) hX rfl dL_law_346 ?_
    refine l_sld hX hB hin1 dL_law_347 ?_
    refine l_aload_n hX (i := 0) rfl rfl dL_law_348 ?_
    refine l_iload_n hX (i := 3) rfl rfl dL_law_349 ?_
    refine l_iconst (v := 2) hX rfl dL_law_350 ?_
    refine l_iadd (v := nI i + 2) hX rfl dL_law_351 ?_
    refine l_sld hX hB hin2 dL_law_352 ?_
    refine KL.world (ws' := wl ad (EM G ad MC2 MM)) rfl ?_
    refine l_callI (c := 218) (vs := [.int (xs (nI i + 1).toNatClampNeg), .int (xs (nI i + 2).toNatClampNeg)]) hX hAG (m_X7_wish hAd e2) io_218 rfl ml_L_61 ⟨Nat.le_of_ble_eq_true rfl, Nat.le_of_ble_eq_true rfl⟩ ⟨Nat.le_of_ble_eq_true rfl, Nat.le_of_ble_eq_true rfl⟩ rfl rfl (Nat.le_of_ble_eq_true rfl) hAd dL_law_353 ?_
    refine l_eq_t (tgt := 582) hX rfl dL_law_356 (by decide) ?_
    exact hnext MC2 MM2 hRel2
  by_cases b11 : xs (nI i).toNatClampNeg &&& 31 = 11
  · refine l_tabIn (tgt := 361) hX b11 dL_law_32 (by decide) (by decide) rfl (by decide) ?_
    obtain ⟨v, MC2, MM2, e1, e2, hRel2⟩ := (hR.2.2.2.2.2.2.2.2.2.2.2.1 (xs (nI i + 1).toNatClampNeg) (xs (nI i + 2).toNatClampNeg) (xs (nI i + 3).toNatClampNeg)) MC MM hRel
    refine l_aload_n hX (i := 1) rfl rfl dL_law_361 ?_
    refine l_aload_n hX (i := 0) rfl rfl dL_law_362 ?_
    refine l_iload_n hX (i := 3) rfl rfl dL_law_363 ?_
    refine l_iconst (v := 1) hX rfl dL_law_364 ?_
    refine l_iadd (v := nI i + 1) hX rfl dL_law_365 ?_
    refine l_sld hX hB hin1 dL_law_366 ?_
    refine l_aload_n hX (i := 0) rfl rfl dL_law_367 ?_
    refine l_iload_n hX (i := 3) rfl rfl dL_law_368 ?_
    refine l_iconst (v := 2) hX rfl dL_law_369 ?_
    refine l_iadd (v := nI i + 2) hX rfl dL_law_370 ?_
    refine l_sld hX hB hin2 dL_law_371 ?_
    refine l_aload_n hX (i := 0) rfl rfl dL_law_372 ?_
    refine l_iload_n hX (i := 3) rfl rfl dL_law_373 ?_
    refine l_iconst (v := 3) hX rfl dL_law_374 ?_
    refine l_iadd (v := nI i + 3) hX rfl dL_law_375 ?_
    refine l_sld hX hB hin3 dL_law_376 ?_
    refine KL.world (ws' := wl ad (EC G ad MM MC)) rfl ?_
    refine l_callI (c := 0) (vs := [.int (xs (nI i + 1).toNatClampNeg), .int (xs (nI i + 2).toNatClampNeg), .int (xs (nI i + 3).toNatClampNeg)]) hX hAG (m_X6_letter hAd e1) io_0 rfl ml_L_62 ⟨Nat.le_of_ble_eq_true rfl, Nat.le_of_ble_eq_true rfl⟩ ⟨Nat.le_of_ble_eq_true rfl, Nat.le_of_ble_eq_true rfl⟩ rfl rfl (Nat.le_of_ble_eq_true rfl) hAd dL_law_377 ?_
    refine l_aload_n hX (i := 2) rfl rfl dL_law_380 ?_
    refine l_aload_n hX (i := 0) rfl rfl dL_law_381 ?_
    refine l_iload_n hX (i := 3) rfl rfl dL_law_382 ?_
    refine l_iconst (v := 1) hX rfl dL_law_383 ?_
    refine l_iadd (v := nI i + 1) hX rfl dL_law_384 ?_
    refine l_sld hX hB hin1 dL_law_385 ?_
    refine l_aload_n hX (i := 0) rfl rfl dL_law_386 ?_
    refine l_iload_n hX (i := 3) rfl rfl dL_law_387 ?_
    refine l_iconst (v := 2) hX rfl dL_law_388 ?_
    refine l_iadd (v := nI i + 2) hX rfl dL_law_389 ?_
    refine l_sld hX hB hin2 dL_law_390 ?_
    refine l_aload_n hX (i := 0) rfl rfl dL_law_391 ?_
    refine l_iload_n hX (i := 3) rfl rfl dL_law_392 ?_
    refine l_iconst (v := 3) hX rfl dL_law_393 ?_
    refine l_iadd (v := nI i + 3) hX rfl dL_law_394 ?_
    refine l_sld hX hB hin3 dL_law_395 ?_
    refine KL.world (ws' := wl ad (EM G ad MC2 MM)) rfl ?_
    refine l_callI (c := 218) (vs := [.int (xs (nI i + 1).toNatClampNeg), .int (xs (nI i + 2).toNatClampNeg), .int (xs (nI i + 3).toNatClampNeg)]) hX hAG (m_X7_letter hAd e2) io_218 rfl ml_L_66 ⟨Nat.le_of_ble_eq_true rfl, Nat.le_of_ble_eq_true rfl⟩ ⟨Nat.le_of_ble_eq_true rfl, Nat.le_of_ble_eq_true rfl⟩ rfl rfl (Nat.le_of_ble_eq_true rfl) hAd dL_law_396 ?_
    refine l_eq_t (tgt := 582) hX rfl dL_law_399 (by decide) ?_
    exact hnext MC2 MM2 hRel2
  by_cases b12 : xs (nI i).toNatClampNeg &&& 31 = 12
  · refine l_tabIn (tgt := 404) hX b12 dL_law_32 (by decide) (by decide) rfl (by decide) ?_
    obtain ⟨v, MC2, MM2, e1, e2, hRel2⟩ := (hR.2.2.2.2.2.2.2.2.2.2.2.2.1 (xs (nI i + 1).toNatClampNeg) (xs (nI i + 2).toNatClampNeg) (xs (nI i + 3).toNatClampNeg)) MC MM hRel
    refine l_aload_n hX (i := 1) rfl rfl dL_law_404 ?_
    refine l_aload_n hX (i := 0) rfl rfl dL_law_405 ?_
    refine l_iload_n hX (i := 3) rfl rfl dL_law_406 ?_
    refine l_iconst (v := 1) hX rfl dL_law_407 ?_
    refine l_iadd (v := nI i + 1) hX rfl dL_law_408 ?_
    refine l_sld hX hB hin1 dL_law_409 ?_
    refine l_aload_n hX (i := 0) rfl rfl dL_law_410 ?_
    refine l_iload_n hX (i := 3) rfl rfl dL_law_411 ?_
    refine l_iconst (v := 2) hX rfl dL_law_412 ?_
    refine l_iadd (v := nI i + 2) hX rfl dL_law_413 ?_
    refine l_sld hX hB hin2 dL_law_414 ?_
    refine l_aload_n hX (i := 0) rfl rfl dL_law_415 ?_
    refine l_iload_n hX (i := 3) rfl rfl dL_law_416 ?_
    refine l_iconst (v := 3) hX rfl dL_law_417 ?_
    refine l_iadd (v := nI i + 3) hX rfl dL_law_418 ?_
    refine l_sld hX hB hin3 dL_law_419 ?_
    refine KL.world (ws' := wl ad (EC G ad MM MC)) rfl ?_
    refine l_callI (c := 0) (vs := [.int (xs (nI i + 1).toNatClampNeg), .int (xs (nI i + 2).toNatClampNeg), .int (xs (nI i + 3).toNatClampNeg)]) hX hAG (m_X6_part hAd e1) io_0 rfl ml_L_67 ⟨Nat.le_of_ble_eq_true rfl, Nat.le_of_ble_eq_true rfl⟩ ⟨Nat.le_of_ble_eq_true rfl, Nat.le_of_ble_eq_true rfl⟩ rfl rfl (Nat.le_of_ble_eq_true rfl) hAd dL_law_420 ?_
    refine l_aload_n hX (i := 2) rfl rfl dL_law_423 ?_
    refine l_aload_n hX (i := 0) rfl rfl dL_law_424 ?_
    refine l_iload_n hX (i := 3) rfl rfl dL_law_425 ?_
    refine l_iconst (v := 1) hX rfl dL_law_426 ?_
    refine l_iadd (v := nI i + 1) hX rfl dL_law_427 ?_
    refine l_sld hX hB hin1 dL_law_428 ?_
    refine l_aload_n hX (i := 0) rfl rfl dL_law_429 ?_
    refine l_iload_n hX (i := 3) rfl rfl dL_law_430 ?_
    refine l_iconst (v := 2) hX rfl dL_law_431 ?_
    refine l_iadd (v := nI i + 2) hX rfl dL_law_432 ?_
    refine l_sld hX hB hin2 dL_law_433 ?_
    refine l_aload_n hX (i := 0) rfl rfl dL_law_434 ?_
    refine l_iload_n hX (i := 3) rfl rfl dL_law_435 ?_
    refine l_iconst (v := 3) hX rfl dL_law_436 ?_
    refine l_iadd (v := nI i + 3) hX rfl dL_law_437 ?_
    refine l_sld hX hB hin3 dL_law_438 ?_
    refine KL.world (ws' := wl ad (EM G ad MC2 MM)) rfl ?_
    refine l_callI (c := 218) (vs := [.int (xs (nI i + 1).toNatClampNeg), .int (xs (nI i + 2).toNatClampNeg), .int (xs (nI i + 3).toNatClampNeg)]) hX hAG (m_X7_part hAd e2) io_218 rfl ml_L_70 ⟨Nat.le_of_ble_eq_true rfl, Nat.le_of_ble_eq_true rfl⟩ ⟨Nat.le_of_ble_eq_true rfl, Nat.le_of_ble_eq_true rfl⟩ rfl rfl (Nat.le_of_ble_eq_true rfl) hAd dL_law_439 ?_
    refine l_eq_t (tgt := 582) hX rfl dL_law_442 (by decide) ?_
    exact hnext MC2 MM2 hRel2
  by_cases b13 : xs (nI i).toNatClampNeg &&& 31 = 13
  · refine l_tabIn (tgt := 447) hX b13 dL_law_32 (by decide) (by decide) rfl (by decide) ?_
    obtain ⟨v, MC2, MM2, e1, e2, hRel2⟩ := (hR.2.2.2.2.2.2.2.2.2.2.2.2.2.1 (xs (nI i + 1).toNatClampNeg) (xs (nI i + 2).toNatClampNeg)) MC MM hRel
    refine l_aload_n hX (i := 1) rfl rfl dL_law_447 ?_
    refine l_aload_n hX (i := 0) rfl rfl dL_law_448 ?_
    refine l_iload_n hX (i := 3) rfl rfl dL_law_449 ?_
    refine l_iconst (v := 1) hX rfl dL_law_450 ?_
    refine l_iadd (v := nI i + 1) hX rfl dL_law_451 ?_
    refine l_sld hX hB hin1 dL_law_452 ?_
    refine l_aload_n hX (i := 0) rfl rfl dL_law_453 ?_
    refine l_iload_n hX (i := 3) rfl rfl dL_law_454 ?_
    refine l_iconst (v := 2) hX rfl dL_law_455 ?_
    refine l_iadd (v := nI i + 2) hX rfl dL_law_456 ?_
    refine l_sld hX hB hin2 dL_law_457 ?_
    refine KL.world (ws' := wl ad (EC G ad MM MC)) rfl ?_
    refine l_callI (c := 0) (vs := [.int (xs (nI i + 1).toNatClampNeg), .int (xs (nI i + 2).toNatClampNeg)]) hX hAG (m_X6_would hAd e1) io_0 rfl ml_L_71 ⟨Nat.le_of_ble_eq_true rfl, Nat.le_of_ble_eq_true rfl⟩ ⟨Nat.le_of_ble_eq_true rfl, Nat.le_of_ble_eq_true rfl⟩ rfl rfl (Nat.le_of_ble_eq_true rfl) hAd dL_law_458 ?_
    refine l_aload_n hX (i := 2) rfl rfl dL_law_461 ?_
    refine l_aload_n hX (i := 0) rfl rfl dL_law_462 ?_
    refine l_iload_n hX (i := 3) rfl rfl dL_law_463 ?_
    refine l_iconst (v := 1) hX rfl dL_law_464 ?_
    refine l_iadd (v := nI i + 1) hX rfl dL_law_465 ?_
    refine l_sld hX hB hin1 dL_law_466 ?_
    refine l_aload_n hX (i := 0) rfl rfl dL_law_467 ?_
    refine l_iload_n hX (i := 3) rfl rfl dL_law_468 ?_
    refine l_iconst (v := 2) hX rfl dL_law_469 ?_
    refine l_iadd (v := nI i + 2) hX rfl dL_law_470 ?_
    refine l_sld hX hB hin2 dL_law_471 ?_
    refine KL.world (ws' := wl ad (EM G ad MC2 MM)) rfl ?_
    refine l_callI (c := 218) (vs := [.int (xs (nI i + 1).toNatClampNeg), .int (xs (nI i + 2).toNatClampNeg)]) hX hAG (m_X7_would hAd e2) io_218 rfl ml_L_74 ⟨Nat.le_of_ble_eq_true rfl, Nat.le_of_ble_eq_true rfl⟩ ⟨Nat.le_of_ble_eq_true rfl, Nat.le_of_ble_eq_true rfl⟩ rfl rfl (Nat.le_of_ble_eq_true rfl) hAd dL_law_472 ?_
    refine l_eq_t (tgt := 582) hX rfl dL_law_475 (by decide) ?_
    exact hnext MC2 MM2 hRel2
  by_cases b14 : xs (nI i).toNatClampNeg &&& 31 = 14
  · refine l_tabIn (tgt := 480) hX b14 dL_law_32 (by decide) (by decide) rfl (by decide) ?_
    obtain ⟨v, MC2, MM2, e1, e2, hRel2⟩ := (hR.2.2.2.2.2.2.2.2.2.2.2.2.2.2.1 (xs (nI i + 1).toNatClampNeg) (xs (nI i + 2).toNatClampNeg)) MC MM hRel
    refine l_aload_n hX (i := 1) rfl rfl dL_law_480 ?_
    refine l_aload_n hX (i := 0) rfl rfl dL_law_481 ?_
    refine l_iload_n hX (i := 3) rfl rfl dL_law_482 ?_
    refine l_iconst (v := 1) hX rfl dL_law_483 ?_
    refine l_iadd (v := nI i + 1) hX rfl dL_law_484 ?_
    refine l_sld hX hB hin1 dL_law_485 ?_
    refine l_aload_n hX (i := 0) rfl rfl dL_law_486 ?_
    refine l_iload_n hX (i := 3) rfl rfl dL_law_487 ?_
    refine l_iconst (v := 2) hX rfl dL_law_488 ?_
    refine l_iadd (v := nI i + 2) hX rfl dL_law_489 ?_
    refine l_sld hX hB hin2 dL_law_490 ?_
    refine KL.world (ws' := wl ad (EC G ad MM MC)) rfl ?_
    refine l_callI (c := 0) (vs := [.int (xs (nI i + 1).toNatClampNeg), .int (xs (nI i + 2).toNatClampNeg)]) hX hAG (m_X6_bears hAd e1) io_0 rfl ml_L_75 ⟨Nat.le_of_ble_eq_true rfl, Nat.le_of_ble_eq_true rfl⟩ ⟨Nat.le_of_ble_eq_true rfl, Nat.le_of_ble_eq_true rfl⟩ rfl rfl (Nat.le_of_ble_eq_true rfl) hAd dL_law_491 ?_
    refine l_aload_n hX (i := 2) rfl rfl dL_law_494 ?_
    refine l_aload_n hX (i := 0) rfl rfl dL_law_495 ?_
    refine l_iload_n hX (i := 3) rfl rfl dL_law_496 ?_
    refine l_iconst (v := 1) hX rfl dL_law_497 ?_
    refine l_iadd (v := nI i + 1) hX rfl dL_law_498 ?_
    refine l_sld hX hB hin1 dL_law_499 ?_
    refine l_aload_n hX (i := 0) rfl rfl dL_law_500 ?_
    refine l_iload_n hX (i := 3) rfl rfl dL_law_501 ?_
    refine l_iconst (v := 2) hX rfl dL_law_502 ?_
    refine l_iadd (v := nI i + 2) hX rfl dL_law_503 ?_
    refine l_sld hX hB hin2 dL_law_504 ?_
    refine KL.world (ws' := wl ad (EM G ad MC2 MM)) rfl ?_
    refine l_callI (c := 218) (vs := [.int (xs (nI i + 1).toNatClampNeg), .int (xs (nI i + 2).toNatClampNeg)]) hX hAG (m_X7_bears hAd e2) io_218 rfl ml_L_78 ⟨Nat.le_of_ble_eq_true rfl, Nat.le_of_ble_eq_true rfl⟩ ⟨Nat.le_of_ble_eq_true rfl, Nat.le_of_ble_eq_true rfl⟩ rfl rfl (Nat.le_of_ble_eq_true rfl) hAd dL_law_505 ?_
    refine l_eq_t (tgt := 582) hX rfl dL_law_508 (by decide) ?_
    exact hnext MC2 MM2 hRel2
  by_cases b15 : xs (nI i).toNatClampNeg &&& 31 = 15
  · refine l_tabIn (tgt := 513) hX b15 dL_law_32 (by decide) (by decide) rfl (by decide) ?_
    obtain ⟨v, MC2, MM2, e1, e2, hRel2⟩ := (hR.2.2.2.2.2.2.2.2.2.2.2.2.2.2.2.1 (xs (nI i + 1).toNatClampNeg)) MC MM hRel
    refine l_aload_n hX (i := 1) rfl rfl dL_law_513 ?_
    refine l_aload_n hX (i := 0) rfl rfl dL_law_514 ?_
    refine l_iload_n hX (i := 3) rfl rfl dL_law_515 ?_
    refine l_iconst (v := 1) hX rfl dL_law_516 ?_
    refine l_iadd (v := nI i + 1) hX rfl dL_law_517 ?_
    refine l_sld hX hB hin1 dL_law_518 ?_
    refine KL.world (ws' := wl ad (EC G ad MM MC)) rfl ?_
    refine l_callI (c := 0) (vs := [.int (xs (nI i + 1).toNatClampNeg)]) hX hAG (m_X6_open hAd e1) io_0 rfl ml_L_79 ⟨Nat.le_of_ble_eq_true rfl, Nat.le_of_ble_eq_true rfl⟩ ⟨Nat.le_of_ble_eq_true rfl, Nat.le_of_ble_eq_true rfl⟩ rfl rfl (Nat.le_of_ble_eq_true rfl) hAd dL_law_519 ?_
    refine l_aload_n hX (i := 2) rfl rfl dL_law_522 ?_
    refine l_aload_n hX (i := 0) rfl rfl dL_law_523 ?_
    refine l_iload_n hX (i := 3) rfl rfl dL_law_524 ?_
    refine l_iconst (v := 1) hX rfl dL_law_525 ?_
    refine l_iadd (v := nI i + 1) hX rfl dL_law_526 ?_
    refine l_sld hX hB hin1 dL_law_527 ?_
    refine KL.world (ws' := wl ad (EM G ad MC2 MM)) rfl ?_
    refine l_callI (c := 218) (vs := [.int (xs (nI i + 1).toNatClampNeg)]) hX hAG (m_X7_open hAd e2) io_218 rfl ml_L_82 ⟨Nat.le_of_ble_eq_true rfl, Nat.le_of_ble_eq_true rfl⟩ ⟨Nat.le_of_ble_eq_true rfl, Nat.le_of_ble_eq_true rfl⟩ rfl rfl (Nat.le_of_ble_eq_true rfl) hAd dL_law_528 ?_
    refine l_eq_t (tgt := 582) hX rfl dL_law_531 (by decide) ?_
    exact hnext MC2 MM2 hRel2
  by_cases b16 : xs (nI i).toNatClampNeg &&& 31 = 16
  · refine l_tabIn (tgt := 536) hX b16 dL_law_32 (by decide) (by decide) rfl (by decide) ?_
    obtain ⟨v, MC2, MM2, e1, e2, hRel2⟩ := (hR.2.2.2.2.2.2.2.2.2.2.2.2.2.2.2.2.1 (xs (nI i + 1).toNatClampNeg)) MC MM hRel
    refine l_aload_n hX (i := 1) rfl rfl dL_law_536 ?_
    refine l_aload_n hX (i := 0) rfl rfl dL_law_537 ?_
    refine l_iload_n hX (i := 3) rfl rfl dL_law_538 ?_
    refine l_iconst (v := 1) hX rfl dL_law_539 ?_
    refine l_iadd (v := nI i + 1) hX rfl dL_law_540 ?_
    refine l_sld hX hB hin1 dL_law_541 ?_
    refine KL.world (ws' := wl ad (EC G ad MM MC)) rfl ?_
    refine l_callI (c := 0) (vs := [.int (xs (nI i + 1).toNatClampNeg)]) hX hAG (m_X6_at hAd e1) io_0 rfl ml_L_83 ⟨Nat.le_of_ble_eq_true rfl, Nat.le_of_ble_eq_true rfl⟩ ⟨Nat.le_of_ble_eq_true rfl, Nat.le_of_ble_eq_true rfl⟩ rfl rfl (Nat.le_of_ble_eq_true rfl) hAd dL_law_542 ?_
    refine l_aload_n hX (i := 2) rfl rfl dL_law_545 ?_
    refine l_aload_n hX (i := 0) rfl rfl dL_law_546 ?_
    refine l_iload_n hX (i := 3) rfl rfl dL_law_547 ?_
    refine l_iconst (v := 1) hX rfl dL_law_548 ?_
    refine l_iadd (v := nI i + 1) hX rfl dL_law_549 ?_
    refine l_sld hX hB hin1 dL_law_550 ?_
    refine KL.world (ws' := wl ad (EM G ad MC2 MM)) rfl ?_
    refine l_callI (c := 218) (vs := [.int (xs (nI i + 1).toNatClampNeg)]) hX hAG (m_X7_at hAd e2) io_218 rfl ml_L_86 ⟨Nat.le_of_ble_eq_true rfl, Nat.le_of_ble_eq_true rfl⟩ ⟨Nat.le_of_ble_eq_true rfl, Nat.le_of_ble_eq_true rfl⟩ rfl rfl (Nat.le_of_ble_eq_true rfl) hAd dL_law_551 ?_
    refine l_eq_t (tgt := 582) hX rfl dL_law_554 (by decide) ?_
    exact hnext MC2 MM2 hRel2
  by_cases b17 : xs (nI i).toNatClampNeg &&& 31 = 17
  · refine l_tabIn (tgt := 559) hX b17 dL_law_32 (by decide) (by decide) rfl (by decide) ?_
    obtain ⟨v, MC2, MM2, e1, e2, hRel2⟩ := (hR.2.2.2.2.2.2.2.2.2.2.2.2.2.2.2.2.2 (xs (nI i + 1).toNatClampNeg)) MC MM hRel
    refine l_aload_n hX (i := 1) rfl rfl dL_law_559 ?_
    refine l_aload_n hX (i := 0) rfl rfl dL_law_560 ?_
    refine l_iload_n hX (i := 3) rfl rfl dL_law_561 ?_
    refine l_iconst (v := 1) hX rfl dL_law_562 ?_
    refine l_iadd (v := nI i + 1) hX rfl dL_law_563 ?_
    refine l_sld hX hB hin1 dL_law_564 ?_
    refine KL.world (ws' := wl ad (EC G ad MM MC)) rfl ?_
    refine l_callI (c := 0) (vs := [.int (xs (nI i + 1).toNatClampNeg)]) hX hAG (m_X6_count hAd e1) io_0 rfl ml_L_87 ⟨Nat.le_of_ble_eq_true rfl, Nat.le_of_ble_eq_true rfl⟩ ⟨Nat.le_of_ble_eq_true rfl, Nat.le_of_ble_eq_true rfl⟩ rfl rfl (Nat.le_of_ble_eq_true rfl) hAd dL_law_565 ?_
    refine l_aload_n hX (i := 2) rfl rfl dL_law_568 ?_
    refine l_aload_n hX (i := 0) rfl rfl dL_law_569 ?_
    refine l_iload_n hX (i := 3) rfl rfl dL_law_570 ?_
    refine l_iconst (v := 1) hX rfl dL_law_571 ?_
    refine l_iadd (v := nI i + 1) hX rfl dL_law_572 ?_
    refine l_sld hX hB hin1 dL_law_573 ?_
    refine KL.world (ws' := wl ad (EM G ad MC2 MM)) rfl ?_
    refine l_callI (c := 218) (vs := [.int (xs (nI i + 1).toNatClampNeg)]) hX hAG (m_X7_count hAd e2) io_218 rfl ml_L_90 ⟨Nat.le_of_ble_eq_true rfl, Nat.le_of_ble_eq_true rfl⟩ ⟨Nat.le_of_ble_eq_true rfl, Nat.le_of_ble_eq_true rfl⟩ rfl rfl (Nat.le_of_ble_eq_true rfl) hAd dL_law_574 ?_
    refine l_eq_t (tgt := 582) hX rfl dL_law_577 (by decide) ?_
    exact hnext MC2 MM2 hRel2
  replace b0 := ne_toInt (k := 0) b0 (by decide)
  replace b1 := ne_toInt (k := 1) b1 (by decide)
  replace b2 := ne_toInt (k := 2) b2 (by decide)
  replace b3 := ne_toInt (k := 3) b3 (by decide)
  replace b4 := ne_toInt (k := 4) b4 (by decide)
  replace b5 := ne_toInt (k := 5) b5 (by decide)
  replace b6 := ne_toInt (k := 6) b6 (by decide)
  replace b7 := ne_toInt (k := 7) b7 (by decide)
  replace b8 := ne_toInt (k := 8) b8 (by decide)
  replace b9 := ne_toInt (k := 9) b9 (by decide)
  replace b10 := ne_toInt (k := 10) b10 (by decide)
  replace b11 := ne_toInt (k := 11) b11 (by decide)
  replace b12 := ne_toInt (k := 12) b12 (by decide)
  replace b13 := ne_toInt (k := 13) b13 (by decide)
  replace b14 := ne_toInt (k := 14) b14 (by decide)
  replace b15 := ne_toInt (k := 15) b15 (by decide)
  replace b16 := ne_toInt (k := 16) b16 (by decide)
  replace b17 := ne_toInt (k := 17) b17 (by decide)
  refine l_tabOut (tgt := 582) hX dL_law_32 (by omega) (by decide) ?_
  exact hnext MC MM hRel
set_option maxHeartbeats 4000000 in
set_option maxRecDepth 100000 in
theorem law_loop {l : Launch} {G : GL} {ad : Nat → Nat} {X : CT} {Q : State → Prop} {b n : Nat} {xs : Nat → Int32} {Rel : Mem → Mem → Prop} (hR : LawRel Rel) (hX : CxL l room_1 cL_law RL 4 G G.2.2.1 X) (hAG : G.2.2.1 = G.2.2.1) (hAd : AdOK G ad) (hB : va_X b n xs X.2.2.1 X.2.2.1.heap ∧ b < X.2.2.1.heap.size ∧ ¬ G.2.2.1 b) (hn : n ≤ 2048) (hend : ∀ (MC MM : Mem) (i : Nat), KL l room_1 4 G G.2.2.1 Q X 600000 7302250 (wl ad (EE ad G.2.1 MC MM)) [some (.ref b), some (.ref (ad 0)), some (.ref (ad 218)), some (.int (nI i))] 588 []) : ∀ (k i : Nat) (MC MM : Mem), i ≤ n + 4 → n + 5 ≤ i + k → Rel MC MM → KL l room_1 4 G G.2.2.1 Q X 600000 7302250 (wl ad (EE ad G.2.1 MC MM)) [some (.ref b), some (.ref (ad 0)), some (.ref (ad 218)), some (.int (nI i))] 18 [] := by
  intro k
  induction k with
  | zero =>
    intro i MC MM h1 h2
    exact absurd h2 (by omega)
  | succ k ih =>
    intro i MC MM h1 h2 hRel
    refine l_iload_n hX (i := 3) rfl rfl dL_law_18 ?_
    refine l_aload_n hX (i := 0) rfl rfl dL_law_19 ?_
    refine l_slen hX hB dL_law_20 ?_
    refine l_iconst (v := 4) hX rfl dL_law_21 ?_
    refine l_isub (v := nI n - 4) hX rfl dL_law_22 ?_
    by_cases hc : n < i + 4
    · refine l_gt_t (tgt := 588) hX ((sub4 hn (by omega)).mpr hc) dL_law_23 (by decide) ?_
      exact hend MC MM i
    · refine l_gt_f (tgt := 588) hX (fun q => hc ((sub4 hn (by omega)).mp q)) dL_law_23 (by decide) ?_
      refine law_round hR hX hAG hAd hB hn (by omega) hRel (fun MC2 MM2 hRel2 => ?_)
      refine l_iinc (v := nI (i + 4)) (L' := [some (.ref b), some (.ref (ad 0)), some (.ref (ad 218)), some (.int (nI (i + 4)))]) (n := 4) hX (i := 3) rfl (nI_add i 4) (by decide) rfl dL_law_582 ?_
      refine l_goto (tgt := 18) hX dL_law_585 (by decide) ?_
      exact ih (i + 4) MC2 MM2 (by omega) (by omega) hRel2
