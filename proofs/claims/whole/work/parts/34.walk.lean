set_option maxHeartbeats 4000000 in
set_option maxRecDepth 100000 in
theorem w_X6_clearText {l : Launch} {G : GL} {ad : Nat → Nat} {MM : Mem} {X : CT} (hX : Cx l { frames := 0, cells := 0, slots := 0, locals := 0 } cX6_clearText RX6 2 (some .int) G ad X) {M : Mem} : KF l { frames := 0, cells := 0, slots := 0, locals := 0 } 2 G ad (EC G ad MM) (QP PostI G ad (EC G ad MM)) X (f_X6_clearText M) [some (.ref (ad 0)), none] 0 [] M := by
  unfold f_X6_clearText
  refine k_aload_n hX (i := 0) rfl rfl dX6_clearText_0 ?_
  refine k_get hX io_0 fl_X6_37 rfl dX6_clearText_1 ?_
  refine k_get hX io_22 fl_X6_154 rfl dX6_clearText_4 ?_
  refine k_istore_n (L' := [some (.ref (ad 0)), some (.int (M 22 5))]) hX (i := 1) rfl (by decide) rfl dX6_clearText_7 ?_
  refine k_aload_n hX (i := 0) rfl rfl dX6_clearText_8 ?_
  refine k_get hX io_0 fl_X6_37 rfl dX6_clearText_9 ?_
  refine k_iconst (v := (nI 0)) hX rfl dX6_clearText_12 ?_
  refine k_puti hX locC io_22 fp_X6_154 (Nat.le_of_ble_eq_true rfl) rfl dX6_clearText_13 (fun M1 => ?_)
  refine k_iload_n hX (i := 1) rfl rfl dX6_clearText_16 ?_
  exact k_iret hX dX6_clearText_17
set_option maxRecDepth 100000 in
theorem m_X6_clearText {l : Launch} {G : GL} {ad : Nat → Nat} {MM : Mem} (hAd : AdOK G ad) {M : Mem} {r : Rv} (h : f_X6_clearText M = some r) : Ct PostI l G ad (EC G ad MM) yX6_clearText cX6_clearText 2 (some .int) 0 0 [.ref (ad 0)] M r := ct_of' hAd (by decide +kernel) (List.forall_mem_cons.mpr ⟨rfl, (fun _ h => absurd h List.not_mem_nil)⟩) (Nat.le_of_ble_eq_true rfl) (L := [some (.ref (ad 0)), none]) rfl (fun _ hX => w_X6_clearText hX) h
set_option maxHeartbeats 4000000 in
set_option maxRecDepth 100000 in
theorem w_X6_undo {l : Launch} {G : GL} {ad : Nat → Nat} {MM : Mem} {X : CT} (hX : Cx l { frames := 0, cells := 0, slots := 0, locals := 0 } cX6_undo RX6 2 (some .int) G ad X) {M : Mem} : KF l { frames := 0, cells := 0, slots := 0, locals := 0 } 2 G ad (EC G ad MM) (QP PostI G ad (EC G ad MM)) X (f_X6_undo M) [some (.ref (ad 0)), none] 0 [] M := by
  unfold f_X6_undo
  refine k_aload_n hX (i := 0) rfl rfl dX6_undo_0 ?_
  refine k_get hX io_0 fl_X6_157 rfl dX6_undo_1 ?_
  refine k_if_ne (tgt := 10) hX dX6_undo_4 (by decide) (fun b1 => ?_) (fun b1 => ?_)
  · refine k_aload_n hX (i := 0) rfl rfl dX6_undo_10 ?_
    refine k_dup hX rfl dX6_undo_11 ?_
    refine k_get hX io_0 fl_X6_157 rfl dX6_undo_12 ?_
    refine k_iconst (v := (nI 1)) hX rfl dX6_undo_15 ?_
    refine k_isub hX dX6_undo_16 ?_
    refine k_puti hX locC io_0 fp_X6_157 (Nat.le_of_ble_eq_true rfl) rfl dX6_undo_17 (fun M2 => ?_)
    refine k_aload_n hX (i := 0) rfl rfl dX6_undo_20 ?_
    refine k_get hX io_0 fl_X6_50 rfl dX6_undo_21 ?_
    refine k_aload_n hX (i := 0) rfl rfl dX6_undo_24 ?_
    refine k_get hX io_0 fl_X6_157 rfl dX6_undo_25 ?_
    refine k_aldS hX iq_28 dX6_undo_28 (fun c3 hc3 => ?_)
    refine k_astore_n (L' := [some (.ref (ad 0)), some (.ref (ad c3))]) hX (i := 1) rfl (by decide) rfl dX6_undo_29 ?_
    refine k_aload_n hX (i := 0) rfl rfl dX6_undo_30 ?_
    refine k_get hX io_0 fl_X6_50 rfl dX6_undo_31 ?_
    refine k_aload_n hX (i := 0) rfl rfl dX6_undo_34 ?_
    refine k_get hX io_0 fl_X6_157 rfl dX6_undo_35 ?_
    refine k_aload_n hX (i := 0) rfl rfl dX6_undo_38 ?_
    refine k_gets hX io_0 fl_X6_59 rfl dX6_undo_39 (fun c4 hc4 => ?_)
    refine k_astS hX locC iq_28 hc4 (io_S hc4) dX6_undo_42 (fun M5 => ?_)
    refine k_aload_n hX (i := 0) rfl rfl dX6_undo_43 ?_
    refine k_aload_n hX (i := 1) rfl rfl dX6_undo_44 ?_
    refine k_puts hX locC io_0 fp_X6_59 (Nat.le_of_ble_eq_true rfl) (set6_8 hc3) dX6_undo_45 (fun M6 => ?_)
    refine k_aload_n hX (i := 0) rfl rfl dX6_undo_48 ?_
    refine k_get hX io_0 fl_X6_157 rfl dX6_undo_49 ?_
    exact k_iret hX dX6_undo_52
  refine k_bipush (v := (-5)) hX rfl dX6_undo_7 ?_
  exact k_iret hX dX6_undo_9
set_option maxRecDepth 100000 in
theorem m_X6_undo {l : Launch} {G : GL} {ad : Nat → Nat} {MM : Mem} (hAd : AdOK G ad) {M : Mem} {r : Rv} (h : f_X6_undo M = some r) : Ct PostI l G ad (EC G ad MM) yX6_undo cX6_undo 2 (some .int) 0 0 [.ref (ad 0)] M r := ct_of' hAd (by decide +kernel) (List.forall_mem_cons.mpr ⟨rfl, (fun _ h => absurd h List.not_mem_nil)⟩) (Nat.le_of_ble_eq_true rfl) (L := [some (.ref (ad 0)), none]) rfl (fun _ hX => w_X6_undo hX) h
set_option maxHeartbeats 4000000 in
set_option maxRecDepth 100000 in
theorem w_X6_keep {l : Launch} {G : GL} {ad : Nat → Nat} {MM : Mem} {X : CT} (hX : Cx l { frames := 3, cells := 0, slots := 0, locals := 70 } cX6_keep RX6 1 (some .int) G ad X) {M : Mem} : KF l { frames := 3, cells := 0, slots := 0, locals := 70 } 1 G ad (EC G ad MM) (QP PostI G ad (EC G ad MM)) X (f_X6_keep M) [some (.ref (ad 0))] 0 [] M := by
  unfold f_X6_keep
  refine k_aload_n hX (i := 0) rfl rfl dX6_keep_0 ?_
  refine k_get hX io_0 fl_X6_55 rfl dX6_keep_1 ?_
  refine k_aload_n hX (i := 0) rfl rfl dX6_keep_4 ?_
  refine k_gets hX io_0 fl_X6_59 rfl dX6_keep_5 (fun c1 hc1 => ?_)
  refine k_callVV (vs := [.ref (ad c1)]) hX (fun _ h9 => m_X4_copyFrom hX.2.2.2.2.2.2.1 isSb_29 hc1 h9) (io_S isSb_29) rfl ml_X6_73 ⟨Nat.le_of_ble_eq_true rfl, Nat.le_of_ble_eq_true rfl⟩ rfl rfl (Nat.le_of_ble_eq_true rfl) dX6_keep_8 (fun q2 => ?_)
  refine k_aload_n hX (i := 0) rfl rfl dX6_keep_11 ?_
  refine k_iconst (v := (nI 1)) hX rfl dX6_keep_12 ?_
  refine k_putz hX locC io_0 fp_X6_160 (Nat.le_of_ble_eq_true rfl) rfl dX6_keep_13 (fun M3 => ?_)
  refine k_aload_n hX (i := 0) rfl rfl dX6_keep_16 ?_
  refine k_gets hX io_0 fl_X6_59 rfl dX6_keep_17 (fun c4 hc4 => ?_)
  refine k_get hX (io_S hc4) fl_X6_69 rfl dX6_keep_20 ?_
  exact k_iret hX dX6_keep_23
set_option maxRecDepth 100000 in
theorem m_X6_keep {l : Launch} {G : GL} {ad : Nat → Nat} {MM : Mem} (hAd : AdOK G ad) {M : Mem} {r : Rv} (h : f_X6_keep M = some r) : Ct PostI l G ad (EC G ad MM) yX6_keep cX6_keep 1 (some .int) 3 70 [.ref (ad 0)] M r := ct_of' hAd (by decide +kernel) (List.forall_mem_cons.mpr ⟨rfl, (fun _ h => absurd h List.not_mem_nil)⟩) (Nat.le_of_ble_eq_true rfl) (L := [some (.ref (ad 0))]) rfl (fun _ hX => w_X6_keep hX) h
set_option maxHeartbeats 4000000 in
set_option maxRecDepth 100000 in
theorem w_X6_restore {l : Launch} {G : GL} {ad : Nat → Nat} {MM : Mem} {X : CT} (hX : Cx l { frames := 3, cells := 0, slots := 0, locals := 70 } cX6_restore RX6 1 (some .int) G ad X) {M : Mem} : KF l { frames := 3, cells := 0, slots := 0, locals := 70 } 1 G ad (EC G ad MM) (QP PostI G ad (EC G ad MM)) X (f_X6_restore M) [some (.ref (ad 0))] 0 [] M := by
  unfold f_X6_restore
  refine k_aload_n hX (i := 0) rfl rfl dX6_restore_0 ?_
  refine k_get hX io_0 fl_X6_160 rfl dX6_restore_1 ?_
  refine k_if_ne (tgt := 10) hX dX6_restore_4 (by decide) (fun b1 => ?_) (fun b1 => ?_)
  · refine k_aload_n hX (i := 0) rfl rfl dX6_restore_10 ?_
    refine k_gets hX io_0 fl_X6_62 rfl dX6_restore_11 (fun c2 hc2 => ?_)
    refine k_aload_n hX (i := 0) rfl rfl dX6_restore_14 ?_
    refine k_get hX io_0 fl_X6_55 rfl dX6_restore_15 ?_
    refine k_callVV (vs := [.ref (ad 29)]) hX (fun _ h9 => m_X4_copyFrom hX.2.2.2.2.2.2.1 hc2 isSb_29 h9) (io_S hc2) rfl ml_X6_73 ⟨Nat.le_of_ble_eq_true rfl, Nat.le_of_ble_eq_true rfl⟩ rfl rfl (Nat.le_of_ble_eq_true rfl) dX6_restore_18 (fun q3 => ?_)
    refine k_aload_n hX (i := 0) rfl rfl dX6_restore_21 ?_
    refine k_callVV (vs := []) hX (fun _ h9 => m_X6_recordAndGoOn hX.2.2.2.2.2.2.1  h9) io_0 rfl ml_X6_110 ⟨Nat.le_of_ble_eq_true rfl, Nat.le_of_ble_eq_true rfl⟩ rfl rfl (Nat.le_of_ble_eq_true rfl) dX6_restore_22 (fun q4 => ?_)
    refine k_aload_n hX (i := 0) rfl rfl dX6_restore_25 ?_
    refine k_gets hX io_0 fl_X6_59 rfl dX6_restore_26 (fun c5 hc5 => ?_)
    refine k_get hX (io_S hc5) fl_X6_69 rfl dX6_restore_29 ?_
    exact k_iret hX dX6_restore_32
  refine k_bipush (v := (-5)) hX rfl dX6_restore_7 ?_
  exact k_iret hX dX6_restore_9
set_option maxRecDepth 100000 in
theorem m_X6_restore {l : Launch} {G : GL} {ad : Nat → Nat} {MM : Mem} (hAd : AdOK G ad) {M : Mem} {r : Rv} (h : f_X6_restore M = some r) : Ct PostI l G ad (EC G ad MM) yX6_restore cX6_restore 1 (some .int) 3 70 [.ref (ad 0)] M r := ct_of' hAd (by decide +kernel) (List.forall_mem_cons.mpr ⟨rfl, (fun _ h => absurd h List.not_mem_nil)⟩) (Nat.le_of_ble_eq_true rfl) (L := [some (.ref (ad 0))]) rfl (fun _ hX => w_X6_restore hX) h
set_option maxHeartbeats 4000000 in
set_option maxRecDepth 100000 in
theorem w_X6_verdictIfEnded_15 {l : Launch} {G : GL} {ad : Nat → Nat} {MM : Mem} {X : CT} (hX : Cx l { frames := 4, cells := 0, slots := 0, locals := 105 } cX6_verdictIfEnded RX6 3 (some .int) G ad X) : ∀ (n : Nat), ∀ (x1 : Nat) (x2 : Int32) (hx1 : isWb x1 = true) (M : Mem) {L : List (Option Value)}, lsub [some (.ref (ad 0)), some (.ref (ad x1)), some (.int x2)] L → KF l { frames := 4, cells := 0, slots := 0, locals := 105 } 3 G ad (EC G ad MM) (QP PostI G ad (EC G ad MM)) X (f_X6_verdictIfEnded_15 n x1 x2 M) L 15 [] M := by
  intro n
  induction n with
  | zero =>
    intro x1 x2 hx1 M L hL
    exact KF.none'
  | succ n ih =>
    intro x1 x2 hx1 M L hL
    rw [f_X6_verdictIfEnded_15]
    refine KF.locals (lsub_le hL) ?_
    refine k_iload_n hX (i := 2) rfl rfl dX6_verdictIfEnded_15 ?_
    refine k_aload_n hX (i := 1) rfl rfl dX6_verdictIfEnded_16 ?_
    refine k_get hX (io_W hx1) fl_X6_163 rfl dX6_verdictIfEnded_17 ?_
    refine k_icmp_ge (tgt := 48) hX dX6_verdictIfEnded_20 (by decide) (fun b1 => ?_) (fun b1 => ?_)
    · refine k_iconst (v := (nI 1)) hX rfl dX6_verdictIfEnded_48 ?_
      exact k_iret hX dX6_verdictIfEnded_49
    refine k_aload_n hX (i := 0) rfl rfl dX6_verdictIfEnded_23 ?_
    refine k_get hX io_0 fl_X6_12 rfl dX6_verdictIfEnded_24 ?_
    refine k_get hX io_1 fl_X6_197 rfl dX6_verdictIfEnded_27 ?_
    refine k_aload_n hX (i := 0) rfl rfl dX6_verdictIfEnded_30 ?_
    refine k_aload_n hX (i := 1) rfl rfl dX6_verdictIfEnded_31 ?_
    refine k_iload_n hX (i := 2) rfl rfl dX6_verdictIfEnded_32 ?_
    refine k_callVI (vs := [.ref (ad x1), .int x2]) hX (fun _ h9 => m_X6_loadAlone hX.2.2.2.2.2.2.1 hx1 h9) io_0 rfl ml_X6_194 ⟨Nat.le_of_ble_eq_true rfl, Nat.le_of_ble_eq_true rfl⟩ rfl rfl (Nat.le_of_ble_eq_true rfl) dX6_verdictIfEnded_33 (fun q2 => ?_)
    refine k_zald hX ia_7 dX6_verdictIfEnded_36 (fun v3 => ?_)
    refine k_if_ne (tgt := 42) hX dX6_verdictIfEnded_37 (by decide) (fun b4 => ?_) (fun b4 => ?_)
    · refine k_iinc (v := x2 + nI 1) (L' := [some (.ref (ad 0)), some (.ref (ad x1)), some (.int (x2 + nI 1))]) hX (i := 2) rfl rfl (by decide) rfl dX6_verdictIfEnded_42 ?_
      refine k_goto (tgt := 15) hX dX6_verdictIfEnded_45 (by decide) ?_
      exact ih x1 (x2 + nI 1) hx1 q2.2 ⟨rfl, rfl, rfl, trivial⟩
    refine k_iconst (v := (nI 0)) hX rfl dX6_verdictIfEnded_40 ?_
    exact k_iret hX dX6_verdictIfEnded_41
set_option maxHeartbeats 4000000 in
set_option maxRecDepth 100000 in
theorem w_X6_verdictIfEnded {l : Launch} {G : GL} {ad : Nat → Nat} {MM : Mem} {X : CT} (hX : Cx l { frames := 4, cells := 0, slots := 0, locals := 105 } cX6_verdictIfEnded RX6 3 (some .int) G ad X) {p1 : Nat} (hp1 : isWb p1 = true) {M : Mem} : KF l { frames := 4, cells := 0, slots := 0, locals := 105 } 3 G ad (EC G ad MM) (QP PostI G ad (EC G ad MM)) X (f_X6_verdictIfEnded p1 M) [some (.ref (ad 0)), some (.ref (ad p1)), none] 0 [] M := by
  unfold f_X6_verdictIfEnded
  refine k_aload_n hX (i := 1) rfl rfl dX6_verdictIfEnded_0 ?_
  refine k_get hX (io_W hp1) fl_X6_93 rfl dX6_verdictIfEnded_1 ?_
  refine k_iconst (v := (nI 2)) hX rfl dX6_verdictIfEnded_4 ?_
  refine k_icmp_eq (tgt := 13) hX dX6_verdictIfEnded_5 (by decide) (fun b1 => ?_) (fun b1 => ?_)
  · refine k_iconst (v := (nI 0)) hX rfl dX6_verdictIfEnded_13 ?_
    refine k_istore_n (L' := [some (.ref (ad 0)), some (.ref (ad p1)), some (.int (nI 0))]) hX (i := 2) rfl (by decide) rfl dX6_verdictIfEnded_14 ?_
    exact w_X6_verdictIfEnded_15 hX fuelN p1 (nI 0) hp1 M ⟨rfl, rfl, rfl, trivial⟩
  refine k_aload_n hX (i := 1) rfl rfl dX6_verdictIfEnded_8 ?_
  refine k_get hX (io_W hp1) fl_X6_93 rfl dX6_verdictIfEnded_9 ?_
  exact k_iret hX dX6_verdictIfEnded_12
set_option maxRecDepth 100000 in
theorem m_X6_verdictIfEnded {l : Launch} {G : GL} {ad : Nat → Nat} {MM : Mem} (hAd : AdOK G ad) {p1 : Nat} (hp1 : isWb p1 = true) {M : Mem} {r : Rv} (h : f_X6_verdictIfEnded p1 M = some r) : Ct PostI l G ad (EC G ad MM) yX6_verdictIfEnded cX6_verdictIfEnded 3 (some .int) 4 105 [.ref (ad 0), .ref (ad p1)] M r := ct_of' hAd (by decide +kernel) (List.forall_mem_cons.mpr ⟨rfl, (List.forall_mem_cons.mpr ⟨rfl, (fun _ h => absurd h List.not_mem_nil)⟩)⟩) (Nat.le_of_ble_eq_true rfl) (L := [some (.ref (ad 0)), some (.ref (ad p1)), none]) rfl (fun _ hX => w_X6_verdictIfEnded hX hp1) h
set_option maxHeartbeats 4000000 in
set_option maxRecDepth 100000 in
theorem w_X6_wish {l : Launch} {G : GL} {ad : Nat → Nat} {MM : Mem} {X : CT} (hX : Cx l { frames := 5, cells := 0, slots := 0, locals := 127 } cX6_wish RX6 4 (some .int) G ad X) {p1 : Int32} {p2 : Int32} {M : Mem} : KF l { frames := 5, cells := 0, slots := 0, locals := 127 } 4 G ad (EC G ad MM) (QP PostI G ad (EC G ad MM)) X (f_X6_wish p1 p2 M) [some (.ref (ad 0)), some (.int p1), some (.int p2), none] 0 [] M := by
  unfold f_X6_wish
  refine k_aload_n hX (i := 0) rfl rfl dX6_wish_0 ?_
  refine k_gets hX io_0 fl_X6_59 rfl dX6_wish_1 (fun c1 hc1 => ?_)
  refine k_iload_n hX (i := 1) rfl rfl dX6_wish_4 ?_
  refine k_callVQ (vs := [.int p1]) hX (fun _ h9 => m_X4_find hX.2.2.2.2.2.2.1 hc1 h9) (io_S hc1) rfl ml_X6_135 ⟨Nat.le_of_ble_eq_true rfl, Nat.le_of_ble_eq_true rfl⟩ rfl rfl (Nat.le_of_ble_eq_true rfl) dX6_wish_5 (fun q2 => ?_)
  refine k_astore_nQ (L' := [some (.ref (ad 0)), some (.int p1), some (.int p2), some (va_rf (nqv ad q2.1))]) hX (i := 3) rfl (by decide) rfl dX6_wish_8 ?_
  refine k_aload_nQ hX (i := 3) rfl rfl dX6_wish_9 ?_
  refine k_ifnonnullQ (tgt := 15) hX dX6_wish_10 (by decide) (fun b3 => ?_) (fun b3 => ?_)
  · refine k_iload_n hX (i := 2) rfl rfl dX6_wish_15 ?_
    refine KF.ite (fun b4 => ?_) (fun b4 => ?_)
    · refine k_tabIn (tgt := 68) hX b4 dX6_wish_16 (by decide) (by decide) rfl (by decide) ?_
      refine k_aloadW (i := 3) rfl (fun c5 hc5 => ?_)
      refine KF.locals (L' := [some (.ref (ad 0)), some (.int p1), some (.int p2), some (.ref (ad c5))]) (fun _ _ h9 => h9) ?_
      refine k_aload_n hX (i := 3) rfl rfl dX6_wish_68 ?_
      refine k_get hX (io_W hc5) fl_X6_93 rfl dX6_wish_69 ?_
      exact k_iret hX dX6_wish_72
    refine KF.ite (fun b6 => ?_) (fun b6 => ?_)
    · refine k_tabIn (tgt := 73) hX b6 dX6_wish_16 (by decide) (by decide) rfl (by decide) ?_
      refine k_aloadW (i := 3) rfl (fun c7 hc7 => ?_)
      refine KF.locals (L' := [some (.ref (ad 0)), some (.int p1), some (.int p2), some (.ref (ad c7))]) (fun _ _ h9 => h9) ?_
      refine k_aload_n hX (i := 3) rfl rfl dX6_wish_73 ?_
      refine k_get hX (io_W hc7) fl_X6_163 rfl dX6_wish_74 ?_
      exact k_iret hX dX6_wish_77
    refine KF.ite (fun b8 => ?_) (fun b8 => ?_)
    · refine k_tabIn (tgt := 78) hX b8 dX6_wish_16 (by decide) (by decide) rfl (by decide) ?_
      refine k_aloadW (i := 3) rfl (fun c9 hc9 => ?_)
      refine KF.locals (L' := [some (.ref (ad 0)), some (.int p1), some (.int p2), some (.ref (ad c9))]) (fun _ _ h9 => h9) ?_
      refine k_aload_n hX (i := 3) rfl rfl dX6_wish_78 ?_
      refine k_iconst (v := (nI 0)) hX rfl dX6_wish_79 ?_
      refine k_callVI (vs := [.int (nI 0)]) hX (fun _ h9 => m_X5_partsThatAre hX.2.2.2.2.2.2.1 hc9 h9) (io_W hc9) rfl ml_X6_166 ⟨Nat.le_of_ble_eq_true rfl, Nat.le_of_ble_eq_true rfl⟩ rfl rfl (Nat.le_of_ble_eq_true rfl) dX6_wish_80 (fun q10 => ?_)
      exact k_iret hX dX6_wish_83
    refine KF.ite (fun b11 => ?_) (fun b11 => ?_)
    · refine k_tabIn (tgt := 84) hX b11 dX6_wish_16 (by decide) (by decide) rfl (by decide) ?_
      refine k_aloadW (i := 3) rfl (fun c12 hc12 => ?_)
      refine KF.locals (L' := [some (.ref (ad 0)), some (.int p1), some (.int p2), some (.ref (ad c12))]) (fun _ _ h9 => h9) ?_
      refine k_aload_n hX (i := 3) rfl rfl dX6_wish_84 ?_
      refine k_iconst (v := (nI 1)) hX rfl dX6_wish_85 ?_
      refine k_callVI (vs := [.int (nI 1)]) hX (fun _ h9 => m_X5_partsThatAre hX.2.2.2.2.2.2.1 hc12 h9) (io_W hc12) rfl ml_X6_166 ⟨Nat.le_of_ble_eq_true rfl, Nat.le_of_ble_eq_true rfl⟩ rfl rfl (Nat.le_of_ble_eq_true rfl) dX6_wish_86 (fun q13 => ?_)
      exact k_iret hX dX6_wish_89
    refine KF.ite (fun b14 => ?_) (fun b14 => ?_)
    · refine k_tabIn (tgt := 90) hX b14 dX6_wish_16 (by decide) (by decide) rfl (by decide) ?_
      refine k_aloadW (i := 3) rfl (fun c15 hc15 => ?_)
      refine KF.locals (L' := [some (.ref (ad 0)), some (.int p1), some (.int p2), some (.ref (ad c15))]) (fun _ _ h9 => h9) ?_
      refine k_aload_n hX (i := 3) rfl rfl dX6_wish_90 ?_
      refine k_get hX (io_W hc15) fl_X6_169 rfl dX6_wish_91 ?_
      exact k_iret hX dX6_wish_94
    refine KF.ite (fun b16 => ?_) (fun b16 => ?_)
    · refine k_tabIn (tgt := 95) hX b16 dX6_wish_16 (by decide) (by decide) rfl (by decide) ?_
      refine k_aloadW (i := 3) rfl (fun c17 hc17 => ?_)
      refine KF.locals (L' := [some (.ref (ad 0)), some (.int p1), some (.int p2), some (.ref (ad c17))]) (fun _ _ h9 => h9) ?_
      refine k_aload_n hX (i := 3) rfl rfl dX6_wish_95 ?_
      refine k_get hX (io_W hc17) fl_X6_104 rfl dX6_wish_96 ?_
      exact k_iret hX dX6_wish_99
    refine KF.ite (fun b18 => ?_) (fun b18 => ?_)
    · refine k_tabIn (tgt := 100) hX b18 dX6_wish_16 (by decide) (by decide) rfl (by decide) ?_
      refine k_aload_n hX (i := 0) rfl rfl dX6_wish_100 ?_
      refine k_aloadW (i := 3) rfl (fun c19 hc19 => ?_)
      refine KF.locals (L' := [some (.ref (ad 0)), some (.int p1), some (.int p2), some (.ref (ad c19))]) (fun _ _ h9 => h9) ?_
      refine k_aload_n hX (i := 3) rfl rfl dX6_wish_101 ?_
      refine k_callVI (vs := [.ref (ad c19)]) hX (fun _ h9 => m_X6_verdictIfEnded hX.2.2.2.2.2.2.1 hc19 h9) io_0 rfl ml_X6_172 ⟨Nat.le_of_ble_eq_true rfl, Nat.le_of_ble_eq_true rfl⟩ rfl rfl (Nat.le_of_ble_eq_true rfl) dX6_wish_102 (fun q20 => ?_)
      exact k_iret hX dX6_wish_105
    refine KF.ite (fun b21 => ?_) (fun b21 => ?_)
    · refine k_tabIn (tgt := 106) hX b21 dX6_wish_16 (by decide) (by decide) rfl (by decide) ?_
      refine k_aloadW (i := 3) rfl (fun c22 hc22 => ?_)
      refine KF.locals (L' := [some (.ref (ad 0)), some (.int p1), some (.int p2), some (.ref (ad c22))]) (fun _ _ h9 => h9) ?_
      refine k_aload_n hX (i := 3) rfl rfl dX6_wish_106 ?_
      refine k_callVI (vs := []) hX (fun _ h9 => m_X5_sizeOfParts hX.2.2.2.2.2.2.1 hc22 h9) (io_W hc22) rfl ml_X6_175 ⟨Nat.le_of_ble_eq_true rfl, Nat.le_of_ble_eq_true rfl⟩ rfl rfl (Nat.le_of_ble_eq_true rfl) dX6_wish_107 (fun q23 => ?_)
      exact k_iret hX dX6_wish_110
    refine KF.ite (fun b24 => ?_) (fun b24 => ?_)
    · refine k_tabIn (tgt := 111) hX b24 dX6_wish_16 (by decide) (by decide) rfl (by decide) ?_
      refine k_aloadW (i := 3) rfl (fun c25 hc25 => ?_)
      refine KF.locals (L' := [some (.ref (ad 0)), some (.int p1), some (.int p2), some (.ref (ad c25))]) (fun _ _ h9 => h9) ?_
      refine k_aload_n hX (i := 3) rfl rfl dX6_wish_111 ?_
      refine k_get hX (io_W hc25) fl_X6_178 rfl dX6_wish_112 ?_
      exact k_iret hX dX6_wish_115
    replace b4 := ne_toInt (k := 0) b4 (by decide)
    replace b6 := ne_toInt (k := 1) b6 (by decide)
    replace b8 := ne_toInt (k := 2) b8 (by decide)
    replace b11 := ne_toInt (k := 3) b11 (by decide)
    replace b14 := ne_toInt (k := 4) b14 (by decide)
    replace b16 := ne_toInt (k := 5) b16 (by decide)
    replace b18 := ne_toInt (k := 6) b18 (by decide)
    replace b21 := ne_toInt (k := 7) b21 (by decide)
    replace b24 := ne_toInt (k := 8) b24 (by decide)
    refine k_tabOut (tgt := 116) hX dX6_wish_16 (by omega) (by decide) ?_
    refine k_bipush (v := (-2)) hX rfl dX6_wish_116 ?_
    exact k_iret hX dX6_wish_118
  refine k_iconst (v := (-1)) hX rfl dX6_wish_13 ?_
  exact k_iret hX dX6_wish_14
set_option maxRecDepth 100000 in
theorem m_X6_wish {l : Launch} {G : GL} {ad : Nat → Nat} {MM : Mem} (hAd : AdOK G ad) {p1 : Int32} {p2 : Int32} {M : Mem} {r : Rv} (h : f_X6_wish p1 p2 M = some r) : Ct PostI l G ad (EC G ad MM) yX6_wish cX6_wish 4 (some .int) 5 127 [.ref (ad 0), .int p1, .int p2] M r := ct_of' hAd (by decide +kernel) (List.forall_mem_cons.mpr ⟨rfl, (List.forall_mem_cons.mpr ⟨rfl, (List.forall_mem_cons.mpr ⟨rfl, (fun _ h => absurd h List.not_mem_nil)⟩)⟩)⟩) (Nat.le_of_ble_eq_true rfl) (L := [some (.ref (ad 0)), some (.int p1), some (.int p2), none]) rfl (fun _ hX => w_X6_wish hX) h
set_option maxHeartbeats 4000000 in
set_option maxRecDepth 100000 in
theorem w_X6_letter_28 {l : Launch} {G : GL} {ad : Nat → Nat} {MM : Mem} {X : CT} (hX : Cx l { frames := 3, cells := 0, slots := 0, locals := 68 } cX6_letter RX6 6 (some .int) G ad X) : ∀ (M : Mem) {L : List (Option Value)}, lsub [none, none, none, none, none, none] L → KF l { frames := 3, cells := 0, slots := 0, locals := 68 } 6 G ad (EC G ad MM) (QP PostI G ad (EC G ad MM)) X (f_X6_letter_28 M) L 28 [] M := by
  intro M L hL
  unfold f_X6_letter_28
  refine KF.locals (lsub_le hL) ?_
  refine k_iconst (v := (-1)) hX rfl dX6_letter_28 ?_
  exact k_iret hX dX6_letter_29
set_option maxHeartbeats 4000000 in
set_option maxRecDepth 100000 in
theorem w_X6_letter_69 {l : Launch} {G : GL} {ad : Nat → Nat} {MM : Mem} {X : CT} (hX : Cx l { frames := 3, cells := 0, slots := 0, locals := 68 } cX6_letter RX6 6 (some .int) G ad X) : ∀ (s0 : Int32) (M : Mem) {L : List (Option Value)}, lsub [none, none, none, none, none, none] L → KF l { frames := 3, cells := 0, slots := 0, locals := 68 } 6 G ad (EC G ad MM) (QP PostI G ad (EC G ad MM)) X (f_X6_letter_69 s0 M) L 69 [.int s0] M := by
  intro s0 M L hL
  unfold f_X6_letter_69
  refine KF.locals (lsub_le hL) ?_
  exact k_iret hX dX6_letter_69
set_option maxHeartbeats 4000000 in
set_option maxRecDepth 100000 in
theorem w_X6_letter {l : Launch} {G : GL} {ad : Nat → Nat} {MM : Mem} {X : CT} (hX : Cx l { frames := 3, cells := 0, slots := 0, locals := 68 } cX6_letter RX6 6 (some .int) G ad X) {p1 : Int32} {p2 : Int32} {p3 : Int32} {M : Mem} : KF l { frames := 3, cells := 0, slots := 0, locals := 68 } 6 G ad (EC G ad MM) (QP PostI G ad (EC G ad MM)) X (f_X6_letter p1 p2 p3 M) [some (.ref (ad 0)), some (.int p1), some (.int p2), some (.int p3), none, none] 0 [] M := by
  unfold f_X6_letter
  refine k_aload_n hX (i := 0) rfl rfl dX6_letter_0 ?_
  refine k_gets hX io_0 fl_X6_59 rfl dX6_letter_1 (fun c1 hc1 => ?_)
  refine k_iload_n hX (i := 1) rfl rfl dX6_letter_4 ?_
  refine k_callVQ (vs := [.int p1]) hX (fun _ h9 => m_X4_find hX.2.2.2.2.2.2.1 hc1 h9) (io_S hc1) rfl ml_X6_135 ⟨Nat.le_of_ble_eq_true rfl, Nat.le_of_ble_eq_true rfl⟩ rfl rfl (Nat.le_of_ble_eq_true rfl) dX6_letter_5 (fun q2 => ?_)
  refine k_astoreQ (L' := [some (.ref (ad 0)), some (.int p1), some (.int p2), some (.int p3), some (va_rf (nqv ad q2.1)), none]) hX (by decide) rfl dX6_letter_8 ?_
  refine k_aloadQ hX rfl dX6_letter_10 ?_
  refine k_ifnullQ (tgt := 28) hX dX6_letter_12 (by decide) (fun b3 => ?_) (fun b3 => ?_)
  · exact w_X6_letter_28 hX q2.2 trivial
  refine k_iload_n hX (i := 2) rfl rfl dX6_letter_15 ?_
  refine k_if_lt (tgt := 28) hX dX6_letter_16 (by decide) (fun b4 => ?_) (fun b4 => ?_)
  · exact w_X6_letter_28 hX q2.2 trivial
  refine k_iload_n hX (i := 2) rfl rfl dX6_letter_19 ?_
  refine k_aloadW (i := 4) rfl (fun c5 hc5 => ?_)
  refine KF.locals (L' := [some (.ref (ad 0)), some (.int p1), some (.int p2), some (.int p3), some (.ref (ad c5)), none]) (fun _ _ h9 => h9) ?_
  refine k_aload hX rfl dX6_letter_20 ?_
  refine k_get hX (io_W hc5) fl_X6_163 rfl dX6_letter_22 ?_
  refine k_icmp_lt (tgt := 30) hX dX6_letter_25 (by decide) (fun b6 => ?_) (fun b6 => ?_)
  · refine k_iload_n hX (i := 3) rfl rfl dX6_letter_30 ?_
    refine k_if_ge (tgt := 37) hX dX6_letter_31 (by decide) (fun b7 => ?_) (fun b7 => ?_)
    · refine k_aload_n hX (i := 0) rfl rfl dX6_letter_37 ?_
      refine k_get hX io_0 fl_X6_28 rfl dX6_letter_38 ?_
      refine k_aload hX rfl dX6_letter_41 ?_
      refine k_iload_n hX (i := 2) rfl rfl dX6_letter_43 ?_
      refine k_callVI (vs := [.ref (ad c5), .int p2]) hX (fun _ h9 => m_X3_spell hX.2.2.2.2.2.2.1 hc5 h9) io_17 rfl ml_X6_181 ⟨Nat.le_of_ble_eq_true rfl, Nat.le_of_ble_eq_true rfl⟩ rfl rfl (Nat.le_of_ble_eq_true rfl) dX6_letter_44 (fun q8 => ?_)
      refine k_istore (L' := [some (.ref (ad 0)), some (.int p1), some (.int p2), some (.int p3), some (.ref (ad c5)), some (.int q8.1)]) hX (by decide) rfl dX6_letter_47 ?_
      refine k_iload_n hX (i := 3) rfl rfl dX6_letter_49 ?_
      refine k_iload hX rfl dX6_letter_50 ?_
      refine k_icmp_ge (tgt := 67) hX dX6_letter_52 (by decide) (fun b9 => ?_) (fun b9 => ?_)
      · refine k_bipush (v := (-5)) hX rfl dX6_letter_67 ?_
        exact w_X6_letter_69 hX (-5) q8.2 trivial
      refine k_aload_n hX (i := 0) rfl rfl dX6_letter_55 ?_
      refine k_get hX io_0 fl_X6_28 rfl dX6_letter_56 ?_
      refine k_get hX io_17 fl_X6_184 rfl dX6_letter_59 ?_
      refine k_iload_n hX (i := 3) rfl rfl dX6_letter_62 ?_
      refine k_cald hX ia_19 dX6_letter_63 (fun v10 => ?_)
      refine k_goto (tgt := 69) hX dX6_letter_64 (by decide) ?_
      exact w_X6_letter_69 hX v10 q8.2 trivial
    refine k_bipush (v := (-2)) hX rfl dX6_letter_34 ?_
    exact k_iret hX dX6_letter_36
  exact w_X6_letter_28 hX q2.2 trivial
set_option maxRecDepth 100000 in
theorem m_X6_letter {l : Launch} {G : GL} {ad : Nat → Nat} {MM : Mem} (hAd : AdOK G ad) {p1 : Int32} {p2 : Int32} {p3 : Int32} {M : Mem} {r : Rv} (h : f_X6_letter p1 p2 p3 M = some r) : Ct PostI l G ad (EC G ad MM) yX6_letter cX6_letter 6 (some .int) 3 68 [.ref (ad 0), .int p1, .int p2, .int p3] M r := ct_of' hAd (by decide +kernel) (List.forall_mem_cons.mpr ⟨rfl, (List.forall_mem_cons.mpr ⟨rfl, (List.forall_mem_cons.mpr ⟨rfl, (List.forall_mem_cons.mpr ⟨rfl, (fun _ h => absurd h List.not_mem_nil)⟩)⟩)⟩)⟩) (Nat.le_of_ble_eq_true rfl) (L := [some (.ref (ad 0)), some (.int p1), some (.int p2), some (.int p3), none, none]) rfl (fun _ hX => w_X6_letter hX) h
set_option maxHeartbeats 4000000 in
set_option maxRecDepth 100000 in
theorem w_X6_part_28 {l : Launch} {G : GL} {ad : Nat → Nat} {MM : Mem} {X : CT} (hX : Cx l { frames := 4, cells := 0, slots := 0, locals := 105 } cX6_part RX6 5 (some .int) G ad X) : ∀ (M : Mem) {L : List (Option Value)}, lsub [none, none, none, none, none] L → KF l { frames := 4, cells := 0, slots := 0, locals := 105 } 5 G ad (EC G ad MM) (QP PostI G ad (EC G ad MM)) X (f_X6_part_28 M) L 28 [] M := by
  intro M L hL
  unfold f_X6_part_28
  refine KF.locals (lsub_le hL) ?_
  refine k_iconst (v := (-1)) hX rfl dX6_part_28 ?_
  exact k_iret hX dX6_part_29
set_option maxHeartbeats 4000000 in
set_option maxRecDepth 100000 in
theorem w_X6_part_118 {l : Launch} {G : GL} {ad : Nat → Nat} {MM : Mem} {X : CT} (hX : Cx l { frames := 4, cells := 0, slots := 0, locals := 105 } cX6_part RX6 5 (some .int) G ad X) : ∀ (s0 : Int32) (M : Mem) {L : List (Option Value)}, lsub [none, none, none, none, none] L → KF l { frames := 4, cells := 0, slots := 0, locals := 105 } 5 G ad (EC G ad MM) (QP PostI G ad (EC G ad MM)) X (f_X6_part_118 s0 M) L 118 [.int s0] M := by
  intro s0 M L hL
  unfold f_X6_part_118
  refine KF.locals (lsub_le hL) ?_
  exact k_iret hX dX6_part_118
set_option maxHeartbeats 4000000 in
set_option maxRecDepth 100000 in
theorem w_X6_part {l : Launch} {G : GL} {ad : Nat → Nat} {MM : Mem} {X : CT} (hX : Cx l { frames := 4, cells := 0, slots := 0, locals := 105 } cX6_part RX6 5 (some .int) G ad X) {p1 : Int32} {p2 : Int32} {p3 : Int32} {M : Mem} : KF l { frames := 4, cells := 0, slots := 0, locals := 105 } 5 G ad (EC G ad MM) (QP PostI G ad (EC G ad MM)) X (f_X6_part p1 p2 p3 M) [some (.ref (ad 0)), some (.int p1), some (.int p2), some (.int p3), none] 0 [] M := by
  unfold f_X6_part
  refine k_aload_n hX (i := 0) rfl rfl dX6_part_0 ?_
  refine k_gets hX io_0 fl_X6_59 rfl dX6_part_1 (fun c1 hc1 => ?_)
  refine k_iload_n hX (i := 1) rfl rfl dX6_part_4 ?_
  refine k_callVQ (vs := [.int p1]) hX (fun _ h9 => m_X4_find hX.2.2.2.2.2.2.1 hc1 h9) (io_S hc1) rfl ml_X6_135 ⟨Nat.le_of_ble_eq_true rfl, Nat.le_of_ble_eq_true rfl⟩ rfl rfl (Nat.le_of_ble_eq_true rfl) dX6_part_5 (fun q2 => ?_)
  refine k_astoreQ (L' := [some (.ref (ad 0)), some (.int p1), some (.int p2), some (.int p3), some (va_rf (nqv ad q2.1))]) hX (by decide) rfl dX6_part_8 ?_
  refine k_aloadQ hX rfl dX6_part_10 ?_
  refine k_ifnullQ (tgt := 28) hX dX6_part_12 (by decide) (fun b3 => ?_) (fun b3 => ?_)
  · exact w_X6_part_28 hX q2.2 trivial
  refine k_iload_n hX (i := 2) rfl rfl dX6_part_15 ?_
  refine k_if_lt (tgt := 28) hX dX6_part_16 (by decide) (fun b4 => ?_) (fun b4 => ?_)
  · exact w_X6_part_28 hX q2.2 trivial
  refine k_iload_n hX (i := 2) rfl rfl dX6_part_19 ?_
  refine k_aloadW (i := 4) rfl (fun c5 hc5 => ?_)
  refine KF.locals (L' := [some (.ref (ad 0)), some (.int p1), some (.int p2), some (.int p3), some (.ref (ad c5))]) (fun _ _ h9 => h9) ?_
  refine k_aload hX rfl dX6_part_20 ?_
  refine k_get hX (io_W hc5) fl_X6_163 rfl dX6_part_22 ?_
  refine k_icmp_lt (tgt := 30) hX dX6_part_25 (by decide) (fun b6 => ?_) (fun b6 => ?_)
  · refine k_iload_n hX (i := 3) rfl rfl dX6_part_30 ?_
    refine KF.ite (fun b7 => ?_) (fun b7 => ?_)
    · refine k_tabIn (tgt := 60) hX b7 dX6_part_31 (by decide) (by decide) rfl (by decide) ?_
      refine k_aload hX rfl dX6_part_60 ?_
      refine k_get hX (io_W hc5) fl_X6_188 rfl dX6_part_62 ?_
      refine k_iload_n hX (i := 2) rfl rfl dX6_part_65 ?_
      refine k_ald hX (ia_W1 hc5) dX6_part_66 (fun v8 => ?_)
      exact k_iret hX dX6_part_67
    refine KF.ite (fun b9 => ?_) (fun b9 => ?_)
    · refine k_tabIn (tgt := 68) hX b9 dX6_part_31 (by decide) (by decide) rfl (by decide) ?_
      refine k_aload_n hX (i := 0) rfl rfl dX6_part_68 ?_
      refine k_get hX io_0 fl_X6_28 rfl dX6_part_69 ?_
      refine k_aload hX rfl dX6_part_72 ?_
      refine k_iload_n hX (i := 2) rfl rfl dX6_part_74 ?_
      refine k_callVI (vs := [.ref (ad c5), .int p2]) hX (fun _ h9 => m_X3_spell hX.2.2.2.2.2.2.1 hc5 h9) io_17 rfl ml_X6_181 ⟨Nat.le_of_ble_eq_true rfl, Nat.le_of_ble_eq_true rfl⟩ rfl rfl (Nat.le_of_ble_eq_true rfl) dX6_part_75 (fun q10 => ?_)
      exact k_iret hX dX6_part_78
    refine KF.ite (fun b11 => ?_) (fun b11 => ?_)
    · refine k_tabIn (tgt := 79) hX b11 dX6_part_31 (by decide) (by decide) rfl (by decide) ?_
      refine k_aload_n hX (i := 0) rfl rfl dX6_part_79 ?_
      refine k_get hX io_0 fl_X6_12 rfl dX6_part_80 ?_
      refine k_get hX io_1 fl_X6_191 rfl dX6_part_83 ?_
      refine k_aload_n hX (i := 0) rfl rfl dX6_part_86 ?_
      refine k_aload hX rfl dX6_part_87 ?_
      refine k_iload_n hX (i := 2) rfl rfl dX6_part_89 ?_
      refine k_callVI (vs := [.ref (ad c5), .int p2]) hX (fun _ h9 => m_X6_loadAlone hX.2.2.2.2.2.2.1 hc5 h9) io_0 rfl ml_X6_194 ⟨Nat.le_of_ble_eq_true rfl, Nat.le_of_ble_eq_true rfl⟩ rfl rfl (Nat.le_of_ble_eq_true rfl) dX6_part_90 (fun q12 => ?_)
      refine k_ald hX ia_6 dX6_part_93 (fun v13 => ?_)
      exact k_iret hX dX6_part_94
    refine KF.ite (fun b14 => ?_) (fun b14 => ?_)
    · refine k_tabIn (tgt := 95) hX b14 dX6_part_31 (by decide) (by decide) rfl (by decide) ?_
      refine k_aload_n hX (i := 0) rfl rfl dX6_part_95 ?_
      refine k_get hX io_0 fl_X6_12 rfl dX6_part_96 ?_
      refine k_get hX io_1 fl_X6_197 rfl dX6_part_99 ?_
      refine k_aload_n hX (i := 0) rfl rfl dX6_part_102 ?_
      refine k_aload hX rfl dX6_part_103 ?_
      refine k_iload_n hX (i := 2) rfl rfl dX6_part_105 ?_
      refine k_callVI (vs := [.ref (ad c5), .int p2]) hX (fun _ h9 => m_X6_loadAlone hX.2.2.2.2.2.2.1 hc5 h9) io_0 rfl ml_X6_194 ⟨Nat.le_of_ble_eq_true rfl, Nat.le_of_ble_eq_true rfl⟩ rfl rfl (Nat.le_of_ble_eq_true rfl) dX6_part_106 (fun q15 => ?_)
      refine k_zald hX ia_7 dX6_part_109 (fun v16 => ?_)
      refine k_if_eq (tgt := 117) hX dX6_part_110 (by decide) (fun b17 => ?_) (fun b17 => ?_)
      · refine k_iconst (v := (nI 0)) hX rfl dX6_part_117 ?_
        exact w_X6_part_118 hX (nI 0) q15.2 trivial
      refine k_iconst (v := (nI 1)) hX rfl dX6_part_113 ?_
      refine k_goto (tgt := 118) hX dX6_part_114 (by decide) ?_
      exact w_X6_part_118 hX (nI 1) q15.2 trivial
    replace b7 := ne_toInt (k := 0) b7 (by decide)
    replace b9 := ne_toInt (k := 1) b9 (by decide)
    replace b11 := ne_toInt (k := 2) b11 (by decide)
    replace b14 := ne_toInt (k := 3) b14 (by decide)
    refine k_tabOut (tgt := 119) hX dX6_part_31 (by omega) (by decide) ?_
    refine k_bipush (v := (-2)) hX rfl dX6_part_119 ?_
    exact k_iret hX dX6_part_121
  exact w_X6_part_28 hX q2.2 trivial
set_option maxRecDepth 100000 in
theorem m_X6_part {l : Launch} {G : GL} {ad : Nat → Nat} {MM : Mem} (hAd : AdOK G ad) {p1 : Int32} {p2 : Int32} {p3 : Int32} {M : Mem} {r : Rv} (h : f_X6_part p1 p2 p3 M = some r) : Ct PostI l G ad (EC G ad MM) yX6_part cX6_part 5 (some .int) 4 105 [.ref (ad 0), .int p1, .int p2, .int p3] M r := ct_of' hAd (by decide +kernel) (List.forall_mem_cons.mpr ⟨rfl, (List.forall_mem_cons.mpr ⟨rfl, (List.forall_mem_cons.mpr ⟨rfl, (List.forall_mem_cons.mpr ⟨rfl, (fun _ h => absurd h List.not_mem_nil)⟩)⟩)⟩)⟩) (Nat.le_of_ble_eq_true rfl) (L := [some (.ref (ad 0)), some (.int p1), some (.int p2), some (.int p3), none]) rfl (fun _ hX => w_X6_part hX) h
set_option maxHeartbeats 4000000 in
set_option maxRecDepth 100000 in
theorem w_X6_would_25 {l : Launch} {G : GL} {ad : Nat → Nat} {MM : Mem} {X : CT} (hX : Cx l { frames := 6, cells := 0, slots := 0, locals := 154 } cX6_would RX6 4 (some .int) G ad X) : ∀ (M : Mem) {L : List (Option Value)}, lsub [none, none, none, none] L → KF l { frames := 6, cells := 0, slots := 0, locals := 154 } 4 G ad (EC G ad MM) (QP PostI G ad (EC G ad MM)) X (f_X6_would_25 M) L 25 [] M := by
  intro M L hL
  unfold f_X6_would_25
  refine KF.locals (lsub_le hL) ?_
  refine k_bipush (v := (-2)) hX rfl dX6_would_25 ?_
  exact k_iret hX dX6_would_27
set_option maxHeartbeats 4000000 in
set_option maxRecDepth 100000 in
theorem w_X6_would {l : Launch} {G : GL} {ad : Nat → Nat} {MM : Mem} {X : CT} (hX : Cx l { frames := 6, cells := 0, slots := 0, locals := 154 } cX6_would RX6 4 (some .int) G ad X) {p1 : Int32} {p2 : Int32} {M : Mem} : KF l { frames := 6, cells := 0, slots := 0, locals := 154 } 4 G ad (EC G ad MM) (QP PostI G ad (EC G ad MM)) X (f_X6_would p1 p2 M) [some (.ref (ad 0)), some (.int p1), some (.int p2), none] 0 [] M := by
  unfold f_X6_would
  refine k_aload_n hX (i := 0) rfl rfl dX6_would_0 ?_
  refine k_gets hX io_0 fl_X6_59 rfl dX6_would_1 (fun c1 hc1 => ?_)
  refine k_iload_n hX (i := 1) rfl rfl dX6_would_4 ?_
  refine k_callVQ (vs := [.int p1]) hX (fun _ h9 => m_X4_find hX.2.2.2.2.2.2.1 hc1 h9) (io_S hc1) rfl ml_X6_135 ⟨Nat.le_of_ble_eq_true rfl, Nat.le_of_ble_eq_true rfl⟩ rfl rfl (Nat.le_of_ble_eq_true rfl) dX6_would_5 (fun q2 => ?_)
  refine k_astore_nQ (L' := [some (.ref (ad 0)), some (.int p1), some (.int p2), some (va_rf (nqv ad q2.1))]) hX (i := 3) rfl (by decide) rfl dX6_would_8 ?_
  refine k_aload_nQ hX (i := 3) rfl rfl dX6_would_9 ?_
  refine k_ifnonnullQ (tgt := 15) hX dX6_would_10 (by decide) (fun b3 => ?_) (fun b3 => ?_)
  · refine k_iload_n hX (i := 2) rfl rfl dX6_would_15 ?_
    refine k_if_lt (tgt := 25) hX dX6_would_16 (by decide) (fun b4 => ?_) (fun b4 => ?_)
    · exact w_X6_would_25 hX q2.2 trivial
    refine k_iload_n hX (i := 2) rfl rfl dX6_would_19 ?_
    refine k_bipush (v := (nI 64)) hX rfl dX6_would_20 ?_
    refine k_icmp_lt (tgt := 28) hX dX6_would_22 (by decide) (fun b5 => ?_) (fun b5 => ?_)
    · refine k_aload_n hX (i := 0) rfl rfl dX6_would_28 ?_
      refine k_gets hX io_0 fl_X6_59 rfl dX6_would_29 (fun c6 hc6 => ?_)
      refine k_get hX (io_S hc6) fl_X6_65 rfl dX6_would_32 ?_
      refine k_if_eq (tgt := 41) hX dX6_would_35 (by decide) (fun b7 => ?_) (fun b7 => ?_)
      · refine k_aload_n hX (i := 0) rfl rfl dX6_would_41 ?_
        refine k_aloadW (i := 3) rfl (fun c8 hc8 => ?_)
        refine KF.locals (L' := [some (.ref (ad 0)), some (.int p1), some (.int p2), some (.ref (ad c8))]) (fun _ _ h9 => h9) ?_
        refine k_aload_n hX (i := 3) rfl rfl dX6_would_42 ?_
        refine k_iload_n hX (i := 2) rfl rfl dX6_would_43 ?_
        refine k_callVI (vs := [.ref (ad c8), .int p2]) hX (fun _ h9 => m_X6_verdictBehind hX.2.2.2.2.2.2.1 hc8 h9) io_0 rfl ml_X6_201 ⟨Nat.le_of_ble_eq_true rfl, Nat.le_of_ble_eq_true rfl⟩ rfl rfl (Nat.le_of_ble_eq_true rfl) dX6_would_44 (fun q9 => ?_)
        exact k_iret hX dX6_would_47
      refine k_bipush (v := (-4)) hX rfl dX6_would_38 ?_
      exact k_iret hX dX6_would_40
    exact w_X6_would_25 hX q2.2 trivial
  refine k_iconst (v := (-1)) hX rfl dX6_would_13 ?_
  exact k_iret hX dX6_would_14
set_option maxRecDepth 100000 in
theorem m_X6_would {l : Launch} {G : GL} {ad : Nat → Nat} {MM : Mem} (hAd : AdOK G ad) {p1 : Int32} {p2 : Int32} {M : Mem} {r : Rv} (h : f_X6_would p1 p2 M = some r) : Ct PostI l G ad (EC G ad MM) yX6_would cX6_would 4 (some .int) 6 154 [.ref (ad 0), .int p1, .int p2] M r := ct_of' hAd (by decide +kernel) (List.forall_mem_cons.mpr ⟨rfl, (List.forall_mem_cons.mpr ⟨rfl, (List.forall_mem_cons.mpr ⟨rfl, (fun _ h => absurd h List.not_mem_nil)⟩)⟩)⟩) (Nat.le_of_ble_eq_true rfl) (L := [some (.ref (ad 0)), some (.int p1), some (.int p2), none]) rfl (fun _ hX => w_X6_would hX) h
set_option maxHeartbeats 4000000 in
set_option maxRecDepth 100000 in
theorem w_X6_addOutcomesOfPart_76 {l : Launch} {G : GL} {ad : Nat → Nat} {MM : Mem} {X : CT} (hX : Cx l { frames := 5, cells := 0, slots := 0, locals := 129 } cX6_addOutcomesOfPart RX6 7 none G ad X) {k30 : Int32 → Int32 → Int32 → Int32 → Mem → Option Rv} (hk30 : ∀ (x3 : Int32) (x4 : Int32) (x5 : Int32) (x6 : Int32) (M : Mem) {L : List (Option Value)}, lsub [some (.ref (ad 0)), none, none, some (.int x3), some (.int x4), some (.int x5), some (.int x6)] L → KF l { frames := 5, cells := 0, slots := 0, locals := 129 } 7 G ad (EC G ad MM) (QP PostV G ad (EC G ad MM)) X (k30 x3 x4 x5 x6 M) L 30 [] M) : ∀ (x3 : Int32) (x4 : Int32) (x5 : Int32) (x6 : Int32) (M : Mem) {L : List (Option Value)}, lsub [some (.ref (ad 0)), none, none, some (.int x3), some (.int x4), some (.int x5), some (.int x6)] L → KF l { frames := 5, cells := 0, slots := 0, locals := 129 } 7 G ad (EC G ad MM) (QP PostV G ad (EC G ad MM)) X (f_X6_addOutcomesOfPart_76 k30 x3 x4 x5 x6 M) L 76 [] M := by
  intro x3 x4 x5 x6 M L hL
  unfold f_X6_addOutcomesOfPart_76
  refine KF.locals (lsub_le hL) ?_
  refine k_aload_n hX (i := 0) rfl rfl dX6_addOutcomesOfPart_76 ?_
  refine k_get hX io_0 fl_X6_41 rfl dX6_addOutcomesOfPart_77 ?_
  refine k_iload hX rfl dX6_addOutcomesOfPart_80 ?_
  refine k_aload_n hX (i := 0) rfl rfl dX6_addOutcomesOfPart_82 ?_
  refine k_get hX io_0 fl_X6_41 rfl dX6_addOutcomesOfPart_83 ?_
  refine k_iload hX rfl dX6_addOutcomesOfPart_86 ?_
  refine k_ald hX ia_26 dX6_addOutcomesOfPart_88 (fun v1 => ?_)
  refine k_aload_n hX (i := 0) rfl rfl dX6_addOutcomesOfPart_89 ?_
  refine k_get hX io_0 fl_X6_45 rfl dX6_addOutcomesOfPart_90 ?_
  refine k_iload hX rfl dX6_addOutcomesOfPart_93 ?_
  refine k_iload hX rfl dX6_addOutcomesOfPart_95 ?_
  refine k_iand hX dX6_addOutcomesOfPart_97 ?_
  refine k_ald hX ia_27 dX6_addOutcomesOfPart_98 (fun v2 => ?_)
  refine k_callSI (vs := [.int v1, .int v2]) hX (fun _ h9 => m_X6_worse hX.2.2.2.2.2.2.1  h9) ml_X6_255 ⟨Nat.le_of_ble_eq_true rfl, Nat.le_of_ble_eq_true rfl⟩ rfl rfl (Nat.le_of_ble_eq_true rfl) dX6_addOutcomesOfPart_99 (fun q3 => ?_)
  refine k_ast hX locC ia_26 dX6_addOutcomesOfPart_102 (fun M4 => ?_)
  refine k_iinc (v := x6 + nI 1) (L' := [some (.ref (ad 0)), none, none, some (.int x3), some (.int x4), some (.int x5), some (.int (x6 + nI 1))]) hX (i := 6) rfl rfl (by decide) rfl dX6_addOutcomesOfPart_103 ?_
  refine k_goto (tgt := 30) hX dX6_addOutcomesOfPart_106 (by decide) ?_
  exact hk30 x3 x4 x5 (x6 + nI 1) M4 ⟨rfl, rfl, rfl, rfl, rfl, trivial⟩
set_option maxHeartbeats 4000000 in
set_option maxRecDepth 100000 in
theorem w_X6_addOutcomesOfPart_30 {l : Launch} {G : GL} {ad : Nat → Nat} {MM : Mem} {X : CT} (hX : Cx l { frames := 5, cells := 0, slots := 0, locals := 129 } cX6_addOutcomesOfPart RX6 7 none G ad X) : ∀ (n : Nat), ∀ (x3 : Int32) (x4 : Int32) (x5 : Int32) (x6 : Int32) (M : Mem) {L : List (Option Value)}, lsub [some (.ref (ad 0)), none, none, some (.int x3), some (.int x4), some (.int x5), some (.int x6)] L → KF l { frames := 5, cells := 0, slots := 0, locals := 129 } 7 G ad (EC G ad MM) (QP PostV G ad (EC G ad MM)) X (f_X6_addOutcomesOfPart_30 n x3 x4 x5 x6 M) L 30 [] M := by
  intro n
  induction n with
  | zero =>
    intro x3 x4 x5 x6 M L hL
    exact KF.none'
  | succ n ih =>
    intro x3 x4 x5 x6 M L hL
    rw [f_X6_addOutcomesOfPart_30]
    refine KF.locals (lsub_le hL) ?_
    refine k_iload hX rfl dX6_addOutcomesOfPart_30 ?_
    refine k_bipush (v := (nI 64)) hX rfl dX6_addOutcomesOfPart_32 ?_
    refine k_icmp_ge (tgt := 109) hX dX6_addOutcomesOfPart_34 (by decide) (fun b1 => ?_) (fun b1 => ?_)
    · exact k_vret hX dX6_addOutcomesOfPart_109
    refine k_iload hX rfl dX6_addOutcomesOfPart_37 ?_
    refine k_iload hX rfl dX6_addOutcomesOfPart_39 ?_
    refine k_iand hX dX6_addOutcomesOfPart_41 ?_
    refine k_iload hX rfl dX6_addOutcomesOfPart_42 ?_
    refine k_icmp_ne (tgt := 76) hX dX6_addOutcomesOfPart_44 (by decide) (fun b2 => ?_) (fun b2 => ?_)
    · exact w_X6_addOutcomesOfPart_76 hX ih x3 x4 x5 x6 M ⟨rfl, rfl, rfl, rfl, rfl, trivial⟩
    refine k_aload_n hX (i := 0) rfl rfl dX6_addOutcomesOfPart_47 ?_
    refine k_get hX io_0 fl_X6_45 rfl dX6_addOutcomesOfPart_48 ?_
    refine k_iload hX rfl dX6_addOutcomesOfPart_51 ?_
    refine k_aload_n hX (i := 0) rfl rfl dX6_addOutcomesOfPart_53 ?_
    refine k_get hX io_0 fl_X6_21 rfl dX6_addOutcomesOfPart_54 ?_
    refine k_iload_n hX (i := 3) rfl rfl dX6_addOutcomesOfPart_57 ?_
    refine k_iload hX rfl dX6_addOutcomesOfPart_58 ?_
    refine k_callVI (vs := [.int x3, .int x6]) hX (fun _ h9 => m_X0_behind hX.2.2.2.2.2.2.1  h9) io_13 rfl ml_X6_216 ⟨Nat.le_of_ble_eq_true rfl, Nat.le_of_ble_eq_true rfl⟩ rfl rfl (Nat.le_of_ble_eq_true rfl) dX6_addOutcomesOfPart_60 (fun q3 => ?_)
    refine k_callSI (vs := [.int q3.1]) hX (fun _ h9 => m_X6_verdictOfForm hX.2.2.2.2.2.2.1  h9) ml_X6_252 ⟨Nat.le_of_ble_eq_true rfl, Nat.le_of_ble_eq_true rfl⟩ rfl rfl (Nat.le_of_ble_eq_true rfl) dX6_addOutcomesOfPart_63 (fun q4 => ?_)
    refine k_ast hX locC ia_27 dX6_addOutcomesOfPart_66 (fun M5 => ?_)
    refine k_aload_n hX (i := 0) rfl rfl dX6_addOutcomesOfPart_67 ?_
    refine k_get hX io_0 fl_X6_12 rfl dX6_addOutcomesOfPart_68 ?_
    refine k_iload hX rfl dX6_addOutcomesOfPart_71 ?_
    refine k_callVV (vs := [.int x5]) hX (fun _ h9 => m_X1_release hX.2.2.2.2.2.2.1  h9) io_1 rfl ml_X6_124 ⟨Nat.le_of_ble_eq_true rfl, Nat.le_of_ble_eq_true rfl⟩ rfl rfl (Nat.le_of_ble_eq_true rfl) dX6_addOutcomesOfPart_73 (fun q6 => ?_)
    exact w_X6_addOutcomesOfPart_76 hX ih x3 x4 x5 x6 q6.2 ⟨rfl, rfl, rfl, rfl, rfl, trivial⟩
set_option maxHeartbeats 4000000 in
set_option maxRecDepth 100000 in
theorem w_X6_addOutcomesOfPart {l : Launch} {G : GL} {ad : Nat → Nat} {MM : Mem} {X : CT} (hX : Cx l { frames := 5, cells := 0, slots := 0, locals := 129 } cX6_addOutcomesOfPart RX6 7 none G ad X) {p1 : Nat} {p2 : Int32} (hp1 : isWb p1 = true) {M : Mem} : KF l { frames := 5, cells := 0, slots := 0, locals := 129 } 7 G ad (EC G ad MM) (QP PostV G ad (EC G ad MM)) X (f_X6_addOutcomesOfPart p1 p2 M) [some (.ref (ad 0)), some (.ref (ad p1)), some (.int p2), none, none, none, none] 0 [] M := by
  unfold f_X6_addOutcomesOfPart
  refine k_aload_n hX (i := 0) rfl rfl dX6_addOutcomesOfPart_0 ?_
  refine k_aload_n hX (i := 1) rfl rfl dX6_addOutcomesOfPart_1 ?_
  refine k_iload_n hX (i := 2) rfl rfl dX6_addOutcomesOfPart_2 ?_
  refine k_callVI (vs := [.ref (ad p1), .int p2]) hX (fun _ h9 => m_X6_loadAlone hX.2.2.2.2.2.2.1 hp1 h9) io_0 rfl ml_X6_194 ⟨Nat.le_of_ble_eq_true rfl, Nat.le_of_ble_eq_true rfl⟩ rfl rfl (Nat.le_of_ble_eq_true rfl) dX6_addOutcomesOfPart_3 (fun q1 => ?_)
  refine k_istore_n (L' := [some (.ref (ad 0)), some (.ref (ad p1)), some (.int p2), some (.int q1.1), none, none, none]) hX (i := 3) rfl (by decide) rfl dX6_addOutcomesOfPart_6 ?_
  refine k_aload_n hX (i := 0) rfl rfl dX6_addOutcomesOfPart_7 ?_
  refine k_get hX io_0 fl_X6_12 rfl dX6_addOutcomesOfPart_8 ?_
  refine k_get hX io_1 fl_X6_191 rfl dX6_addOutcomesOfPart_11 ?_
  refine k_iload_n hX (i := 3) rfl rfl dX6_addOutcomesOfPart_14 ?_
  refine k_ald hX ia_6 dX6_addOutcomesOfPart_15 (fun v2 => ?_)
  refine k_istore (L' := [some (.ref (ad 0)), some (.ref (ad p1)), some (.int p2), some (.int q1.1), some (.int v2), none, none]) hX (by decide) rfl dX6_addOutcomesOfPart_16 ?_
  refine k_aload_n hX (i := 0) rfl rfl dX6_addOutcomesOfPart_18 ?_
  refine k_get hX io_0 fl_X6_12 rfl dX6_addOutcomesOfPart_19 ?_
  refine k_get hX io_1 fl_X6_262 rfl dX6_addOutcomesOfPart_22 ?_
  refine k_istore (L' := [some (.ref (ad 0)), some (.ref (ad p1)), some (.int p2), some (.int q1.1), some (.int v2), some (.int (q1.2 1 11)), none]) hX (by decide) rfl dX6_addOutcomesOfPart_25 ?_
  refine k_iconst (v := (nI 0)) hX rfl dX6_addOutcomesOfPart_27 ?_
  refine k_istore (L' := [some (.ref (ad 0)), some (.ref (ad p1)), some (.int p2), some (.int q1.1), some (.int v2), some (.int (q1.2 1 11)), some (.int (nI 0))]) hX (by decide) rfl dX6_addOutcomesOfPart_28 ?_
  exact w_X6_addOutcomesOfPart_30 hX fuelN q1.1 v2 (q1.2 1 11) (nI 0) q1.2 ⟨rfl, rfl, rfl, rfl, rfl, trivial⟩
set_option maxRecDepth 100000 in
theorem m_X6_addOutcomesOfPart {l : Launch} {G : GL} {ad : Nat → Nat} {MM : Mem} (hAd : AdOK G ad) {p1 : Nat} {p2 : Int32} (hp1 : isWb p1 = true) {M : Mem} {r : Rv} (h : f_X6_addOutcomesOfPart p1 p2 M = some r) : Ct PostV l G ad (EC G ad MM) yX6_addOutcomesOfPart cX6_addOutcomesOfPart 7 none 5 129 [.ref (ad 0), .ref (ad p1), .int p2] M r := ct_of' hAd (by decide +kernel) (List.forall_mem_cons.mpr ⟨rfl, (List.forall_mem_cons.mpr ⟨rfl, (List.forall_mem_cons.mpr ⟨rfl, (fun _ h => absurd h List.not_mem_nil)⟩)⟩)⟩) (Nat.le_of_ble_eq_true rfl) (L := [some (.ref (ad 0)), some (.ref (ad p1)), some (.int p2), none, none, none, none]) rfl (fun _ hX => w_X6_addOutcomesOfPart hX hp1) h
set_option maxHeartbeats 4000000 in
set_option maxRecDepth 100000 in
theorem w_X6_findOutcomes_29 {l : Launch} {G : GL} {ad : Nat → Nat} {MM : Mem} {X : CT} (hX : Cx l { frames := 6, cells := 0, slots := 0, locals := 155 } cX6_findOutcomes RX6 3 none G ad X) {k2 : Nat → Int32 → Mem → Option Rv} (hk2 : ∀ (x1 : Nat) (x2 : Int32) (hx1 : isWb x1 = true) (M : Mem) {L : List (Option Value)}, lsub [some (.ref (ad 0)), some (.ref (ad x1)), some (.int x2)] L → KF l { frames := 6, cells := 0, slots := 0, locals := 155 } 3 G ad (EC G ad MM) (QP PostV G ad (EC G ad MM)) X (k2 x1 x2 M) L 2 [] M) : ∀ (x1 : Nat) (x2 : Int32) (s0 : Int32) (s1 : Int32) (hx1 : isWb x1 = true) (M : Mem) {L : List (Option Value)}, lsub [some (.ref (ad 0)), some (.ref (ad x1)), some (.int x2)] L → KF l { frames := 6, cells := 0, slots := 0, locals := 155 } 3 G ad (EC G ad MM) (QP PostV G ad (EC G ad MM)) X (f_X6_findOutcomes_29 k2 x1 x2 s0 s1 M) L 29 [.int s0, .int s1, .ref (ad 26)] M := by
  intro x1 x2 s0 s1 hx1 M L hL
  unfold f_X6_findOutcomes_29
  refine KF.locals (lsub_le hL) ?_
  refine k_ast hX locC ia_26 dX6_findOutcomes_29 (fun M1 => ?_)
  refine k_iinc (v := x2 + nI 1) (L' := [some (.ref (ad 0)), some (.ref (ad x1)), some (.int (x2 + nI 1))]) hX (i := 2) rfl rfl (by decide) rfl dX6_findOutcomes_30 ?_
  refine k_goto (tgt := 2) hX dX6_findOutcomes_33 (by decide) ?_
  exact hk2 x1 (x2 + nI 1) hx1 M1 ⟨rfl, rfl, rfl, trivial⟩
set_option maxHeartbeats 4000000 in
set_option maxRecDepth 100000 in
theorem w_X6_findOutcomes_66 {l : Launch} {G : GL} {ad : Nat → Nat} {MM : Mem} {X : CT} (hX : Cx l { frames := 6, cells := 0, slots := 0, locals := 155 } cX6_findOutcomes RX6 3 none G ad X) : ∀ (M : Mem) {L : List (Option Value)}, lsub [none, none, none] L → KF l { frames := 6, cells := 0, slots := 0, locals := 155 } 3 G ad (EC G ad MM) (QP PostV G ad (EC G ad MM)) X (f_X6_findOutcomes_66 M) L 66 [] M := by
  intro M L hL
  unfold f_X6_findOutcomes_66
  refine KF.locals (lsub_le hL) ?_
  exact k_vret hX dX6_findOutcomes_66
set_option maxHeartbeats 4000000 in
set_option maxRecDepth 100000 in
theorem w_X6_findOutcomes_46 {l : Launch} {G : GL} {ad : Nat → Nat} {MM : Mem} {X : CT} (hX : Cx l { frames := 6, cells := 0, slots := 0, locals := 155 } cX6_findOutcomes RX6 3 none G ad X) : ∀ (n : Nat), ∀ (x1 : Nat) (x2 : Int32) (hx1 : isWb x1 = true) (M : Mem) {L : List (Option Value)}, lsub [some (.ref (ad 0)), some (.ref (ad x1)), some (.int x2)] L → KF l { frames := 6, cells := 0, slots := 0, locals := 155 } 3 G ad (EC G ad MM) (QP PostV G ad (EC G ad MM)) X (f_X6_findOutcomes_46 n x1 x2 M) L 46 [] M := by
  intro n
  induction n with
  | zero =>
    intro x1 x2 hx1 M L hL
    exact KF.none'
  | succ n ih =>
    intro x1 x2 hx1 M L hL
    rw [f_X6_findOutcomes_46]
    refine KF.locals (lsub_le hL) ?_
    refine k_iload_n hX (i := 2) rfl rfl dX6_findOutcomes_46 ?_
    refine k_aload_n hX (i := 1) rfl rfl dX6_findOutcomes_47 ?_
    refine k_get hX (io_W hx1) fl_X6_163 rfl dX6_findOutcomes_48 ?_
    refine k_icmp_ge (tgt := 66) hX dX6_findOutcomes_51 (by decide) (fun b1 => ?_) (fun b1 => ?_)
    · exact w_X6_findOutcomes_66 hX M trivial
    refine k_aload_n hX (i := 0) rfl rfl dX6_findOutcomes_54 ?_
    refine k_aload_n hX (i := 1) rfl rfl dX6_findOutcomes_55 ?_
    refine k_iload_n hX (i := 2) rfl rfl dX6_findOutcomes_56 ?_
    refine k_callVV (vs := [.ref (ad x1), .int x2]) hX (fun _ h9 => m_X6_addOutcomesOfPart hX.2.2.2.2.2.2.1 hx1 h9) io_0 rfl ml_X6_258 ⟨Nat.le_of_ble_eq_true rfl, Nat.le_of_ble_eq_true rfl⟩ rfl rfl (Nat.le_of_ble_eq_true rfl) dX6_findOutcomes_57 (fun q2 => ?_)
    refine k_iinc (v := x2 + nI 1) (L' := [some (.ref (ad 0)), some (.ref (ad x1)), some (.int (x2 + nI 1))]) hX (i := 2) rfl rfl (by decide) rfl dX6_findOutcomes_60 ?_
    refine k_goto (tgt := 46) hX dX6_findOutcomes_63 (by decide) ?_
    exact ih x1 (x2 + nI 1) hx1 q2.2 ⟨rfl, rfl, rfl, trivial⟩
set_option maxHeartbeats 4000000 in
set_option maxRecDepth 100000 in
theorem w_X6_findOutcomes_2 {l : Launch} {G : GL} {ad : Nat → Nat} {MM : Mem} {X : CT} (hX : Cx l { frames := 6, cells := 0, slots := 0, locals := 155 } cX6_findOutcomes RX6 3 none G ad X) : ∀ (n : Nat), ∀ (x1 : Nat) (x2 : Int32) (hx1 : isWb x1 = true) (M : Mem) {L : List (Option Value)}, lsub [some (.ref (ad 0)), some (.ref (ad x1)), some (.int x2)] L → KF l { frames := 6, cells := 0, slots := 0, locals := 155 } 3 G ad (EC G ad MM) (QP PostV G ad (EC G ad MM)) X (f_X6_findOutcomes_2 n x1 x2 M) L 2 [] M := by
  intro n
  induction n with
  | zero =>
    intro x1 x2 hx1 M L hL
    exact KF.none'
  | succ n ih =>
    intro x1 x2 hx1 M L hL
    rw [f_X6_findOutcomes_2]
    refine KF.locals (lsub_le hL) ?_
    refine k_iload_n hX (i := 2) rfl rfl dX6_findOutcomes_2 ?_
    refine k_bipush (v := (nI 64)) hX rfl dX6_findOutcomes_3 ?_
    refine k_icmp_ge (tgt := 36) hX dX6_findOutcomes_5 (by decide) (fun b1 => ?_) (fun b1 => ?_)
    · refine k_aload_n hX (i := 1) rfl rfl dX6_findOutcomes_36 ?_
      refine k_get hX (io_W hx1) fl_X6_93 rfl dX6_findOutcomes_37 ?_
      refine k_iconst (v := (nI 2)) hX rfl dX6_findOutcomes_40 ?_
      refine k_icmp_ne (tgt := 66) hX dX6_findOutcomes_41 (by decide) (fun b2 => ?_) (fun b2 => ?_)
      · exact w_X6_findOutcomes_66 hX M trivial
      refine k_iconst (v := (nI 0)) hX rfl dX6_findOutcomes_44 ?_
      refine k_istore_n (L' := [some (.ref (ad 0)), some (.ref (ad x1)), some (.int (nI 0))]) hX (i := 2) rfl (by decide) rfl dX6_findOutcomes_45 ?_
      exact w_X6_findOutcomes_46 hX fuelN x1 (nI 0) hx1 M ⟨rfl, rfl, rfl, trivial⟩
    refine k_aload_n hX (i := 0) rfl rfl dX6_findOutcomes_8 ?_
    refine k_get hX io_0 fl_X6_41 rfl dX6_findOutcomes_9 ?_
    refine k_iload_n hX (i := 2) rfl rfl dX6_findOutcomes_12 ?_
    refine k_aload_n hX (i := 1) rfl rfl dX6_findOutcomes_13 ?_
    refine k_get hX (io_W hx1) fl_X6_93 rfl dX6_findOutcomes_14 ?_
    refine k_iconst (v := (nI 2)) hX rfl dX6_findOutcomes_17 ?_
    refine k_icmp_ne (tgt := 25) hX dX6_findOutcomes_18 (by decide) (fun b3 => ?_) (fun b3 => ?_)
    · refine k_aload_n hX (i := 1) rfl rfl dX6_findOutcomes_25 ?_
      refine k_get hX (io_W hx1) fl_X6_93 rfl dX6_findOutcomes_26 ?_
      exact w_X6_findOutcomes_29 hX ih x1 x2 (M x1 1) x2 hx1 M ⟨rfl, rfl, rfl, trivial⟩
    refine k_iconst (v := (nI 1)) hX rfl dX6_findOutcomes_21 ?_
    refine k_goto (tgt := 29) hX dX6_findOutcomes_22 (by decide) ?_
    exact w_X6_findOutcomes_29 hX ih x1 x2 (nI 1) x2 hx1 M ⟨rfl, rfl, rfl, trivial⟩
set_option maxHeartbeats 4000000 in
set_option maxRecDepth 100000 in
theorem w_X6_findOutcomes {l : Launch} {G : GL} {ad : Nat → Nat} {MM : Mem} {X : CT} (hX : Cx l { frames := 6, cells := 0, slots := 0, locals := 155 } cX6_findOutcomes RX6 3 none G ad X) {p1 : Nat} (hp1 : isWb p1 = true) {M : Mem} : KF l { frames := 6, cells := 0, slots := 0, locals := 155 } 3 G ad (EC G ad MM) (QP PostV G ad (EC G ad MM)) X (f_X6_findOutcomes p1 M) [some (.ref (ad 0)), some (.ref (ad p1)), none] 0 [] M := by
  unfold f_X6_findOutcomes
  refine k_iconst (v := (nI 0)) hX rfl dX6_findOutcomes_0 ?_
  refine k_istore_n (L' := [some (.ref (ad 0)), some (.ref (ad p1)), some (.int (nI 0))]) hX (i := 2) rfl (by decide) rfl dX6_findOutcomes_1 ?_
  exact w_X6_findOutcomes_2 hX fuelN p1 (nI 0) hp1 M ⟨rfl, rfl, rfl, trivial⟩
set_option maxRecDepth 100000 in
theorem m_X6_findOutcomes {l : Launch} {G : GL} {ad : Nat → Nat} {MM : Mem} (hAd : AdOK G ad) {p1 : Nat} (hp1 : isWb p1 = true) {M : Mem} {r : Rv} (h : f_X6_findOutcomes p1 M = some r) : Ct PostV l G ad (EC G ad MM) yX6_findOutcomes cX6_findOutcomes 3 none 6 155 [.ref (ad 0), .ref (ad p1)] M r := ct_of' hAd (by decide +kernel) (List.forall_mem_cons.mpr ⟨rfl, (List.forall_mem_cons.mpr ⟨rfl, (fun _ h => absurd h List.not_mem_nil)⟩)⟩) (Nat.le_of_ble_eq_true rfl) (L := [some (.ref (ad 0)), some (.ref (ad p1)), none]) rfl (fun _ hX => w_X6_findOutcomes hX hp1) h
set_option maxHeartbeats 4000000 in
set_option maxRecDepth 100000 in
theorem w_X6_bears_24 {l : Launch} {G : GL} {ad : Nat → Nat} {MM : Mem} {X : CT} (hX : Cx l { frames := 7, cells := 0, slots := 0, locals := 177 } cX6_bears RX6 7 (some .int) G ad X) : ∀ (M : Mem) {L : List (Option Value)}, lsub [none, none, none, none, none, none, none] L → KF l { frames := 7, cells := 0, slots := 0, locals := 177 } 7 G ad (EC G ad MM) (QP PostI G ad (EC G ad MM)) X (f_X6_bears_24 M) L 24 [] M := by
  intro M L hL
  unfold f_X6_bears_24
  refine KF.locals (lsub_le hL) ?_
  refine k_bipush (v := (-2)) hX rfl dX6_bears_24 ?_
  exact k_iret hX dX6_bears_26
set_option maxHeartbeats 4000000 in
set_option maxRecDepth 100000 in
theorem w_X6_bears_114 {l : Launch} {G : GL} {ad : Nat → Nat} {MM : Mem} {X : CT} (hX : Cx l { frames := 7, cells := 0, slots := 0, locals := 177 } cX6_bears RX6 7 (some .int) G ad X) : ∀ (x5 : Int32) (M : Mem) {L : List (Option Value)}, lsub [none, none, none, none, none, some (.int x5), none] L → KF l { frames := 7, cells := 0, slots := 0, locals := 177 } 7 G ad (EC G ad MM) (QP PostI G ad (EC G ad MM)) X (f_X6_bears_114 x5 M) L 114 [] M := by
  intro x5 M L hL
  unfold f_X6_bears_114
  refine KF.locals (lsub_le hL) ?_
  refine k_iload hX rfl dX6_bears_114 ?_
  exact k_iret hX dX6_bears_116
set_option maxHeartbeats 4000000 in
set_option maxRecDepth 100000 in
theorem w_X6_bears_125 {l : Launch} {G : GL} {ad : Nat → Nat} {MM : Mem} {X : CT} (hX : Cx l { frames := 7, cells := 0, slots := 0, locals := 177 } cX6_bears RX6 7 (some .int) G ad X) {k51 : Int32 → Int32 → Int32 → Mem → Option Rv} (hk51 : ∀ (x2 : Int32) (x4 : Int32) (x5 : Int32) (M : Mem) {L : List (Option Value)}, lsub [some (.ref (ad 0)), none, some (.int x2), none, some (.int x4), some (.int x5), none] L → KF l { frames := 7, cells := 0, slots := 0, locals := 177 } 7 G ad (EC G ad MM) (QP PostI G ad (EC G ad MM)) X (k51 x2 x4 x5 M) L 51 [] M) : ∀ (x2 : Int32) (x4 : Int32) (x5 : Int32) (M : Mem) {L : List (Option Value)}, lsub [some (.ref (ad 0)), none, some (.int x2), none, some (.int x4), some (.int x5), none] L → KF l { frames := 7, cells := 0, slots := 0, locals := 177 } 7 G ad (EC G ad MM) (QP PostI G ad (EC G ad MM)) X (f_X6_bears_125 k51 x2 x4 x5 M) L 125 [] M := by
  intro x2 x4 x5 M L hL
  unfold f_X6_bears_125
  refine KF.locals (lsub_le hL) ?_
  refine k_iinc (v := x5 + nI 1) (L' := [some (.ref (ad 0)), none, some (.int x2), none, some (.int x4), some (.int (x5 + nI 1)), none]) hX (i := 5) rfl rfl (by decide) rfl dX6_bears_125 ?_
  refine k_goto (tgt := 51) hX dX6_bears_128 (by decide) ?_
  exact hk51 x2 x4 (x5 + nI 1) M ⟨rfl, rfl, rfl, rfl, trivial⟩
set_option maxHeartbeats 4000000 in
set_option maxRecDepth 100000 in
theorem w_X6_bears_117 {l : Launch} {G : GL} {ad : Nat → Nat} {MM : Mem} {X : CT} (hX : Cx l { frames := 7, cells := 0, slots := 0, locals := 177 } cX6_bears RX6 7 (some .int) G ad X) {k51 : Int32 → Int32 → Int32 → Mem → Option Rv} (hk51 : ∀ (x2 : Int32) (x4 : Int32) (x5 : Int32) (M : Mem) {L : List (Option Value)}, lsub [some (.ref (ad 0)), none, some (.int x2), none, some (.int x4), some (.int x5), none] L → KF l { frames := 7, cells := 0, slots := 0, locals := 177 } 7 G ad (EC G ad MM) (QP PostI G ad (EC G ad MM)) X (k51 x2 x4 x5 M) L 51 [] M) : ∀ (x2 : Int32) (x4 : Int32) (x5 : Int32) (x6 : Int32) (M : Mem) {L : List (Option Value)}, lsub [some (.ref (ad 0)), none, some (.int x2), none, some (.int x4), some (.int x5), some (.int x6)] L → KF l { frames := 7, cells := 0, slots := 0, locals := 177 } 7 G ad (EC G ad MM) (QP PostI G ad (EC G ad MM)) X (f_X6_bears_117 k51 x2 x4 x5 x6 M) L 117 [] M := by
  intro x2 x4 x5 x6 M L hL
  unfold f_X6_bears_117
  refine KF.locals (lsub_le hL) ?_
  refine k_iload hX rfl dX6_bears_117 ?_
  refine k_if_eq (tgt := 125) hX dX6_bears_119 (by decide) (fun b1 => ?_) (fun b1 => ?_)
  · exact w_X6_bears_125 hX hk51 x2 x4 x5 M ⟨rfl, rfl, rfl, rfl, trivial⟩
  refine k_iinc (v := x4 + nI 1) (L' := [some (.ref (ad 0)), none, some (.int x2), none, some (.int (x4 + nI 1)), some (.int x5), some (.int x6)]) hX (i := 4) rfl rfl (by decide) rfl dX6_bears_122 ?_
  exact w_X6_bears_125 hX hk51 x2 (x4 + nI 1) x5 M ⟨rfl, rfl, rfl, rfl, trivial⟩
set_option maxHeartbeats 4000000 in
set_option maxRecDepth 100000 in
theorem w_X6_bears_97 {l : Launch} {G : GL} {ad : Nat → Nat} {MM : Mem} {X : CT} (hX : Cx l { frames := 7, cells := 0, slots := 0, locals := 177 } cX6_bears RX6 7 (some .int) G ad X) {k51 : Int32 → Int32 → Int32 → Mem → Option Rv} (hk51 : ∀ (x2 : Int32) (x4 : Int32) (x5 : Int32) (M : Mem) {L : List (Option Value)}, lsub [some (.ref (ad 0)), none, some (.int x2), none, some (.int x4), some (.int x5), none] L → KF l { frames := 7, cells := 0, slots := 0, locals := 177 } 7 G ad (EC G ad MM) (QP PostI G ad (EC G ad MM)) X (k51 x2 x4 x5 M) L 51 [] M) : ∀ (x2 : Int32) (x4 : Int32) (x5 : Int32) (s0 : Int32) (M : Mem) {L : List (Option Value)}, lsub [some (.ref (ad 0)), none, some (.int x2), none, some (.int x4), some (.int x5), none] L → KF l { frames := 7, cells := 0, slots := 0, locals := 177 } 7 G ad (EC G ad MM) (QP PostI G ad (EC G ad MM)) X (f_X6_bears_97 k51 x2 x4 x5 s0 M) L 97 [.int s0] M := by
  intro x2 x4 x5 s0 M L hL
  unfold f_X6_bears_97
  refine KF.locals (lsub_le hL) ?_
  refine k_istore (L' := [some (.ref (ad 0)), none, some (.int x2), none, some (.int x4), some (.int x5), some (.int s0)]) hX (by decide) rfl dX6_bears_97 ?_
  refine k_iload hX rfl dX6_bears_99 ?_
  refine k_if_eq (tgt := 117) hX dX6_bears_101 (by decide) (fun b1 => ?_) (fun b1 => ?_)
  · exact w_X6_bears_117 hX hk51 x2 x4 x5 s0 M ⟨rfl, rfl, rfl, rfl, rfl, trivial⟩
  refine k_iload_n hX (i := 2) rfl rfl dX6_bears_104 ?_
  refine k_iconst (v := (nI 1)) hX rfl dX6_bears_105 ?_
  refine k_icmp_eq (tgt := 114) hX dX6_bears_106 (by decide) (fun b2 => ?_) (fun b2 => ?_)
  · exact w_X6_bears_114 hX x5 M ⟨rfl, trivial⟩
  refine k_iload_n hX (i := 2) rfl rfl dX6_bears_109 ?_
  refine k_iconst (v := (nI 3)) hX rfl dX6_bears_110 ?_
  refine k_icmp_ne (tgt := 117) hX dX6_bears_111 (by decide) (fun b3 => ?_) (fun b3 => ?_)
  · exact w_X6_bears_117 hX hk51 x2 x4 x5 s0 M ⟨rfl, rfl, rfl, rfl, rfl, trivial⟩
  exact w_X6_bears_114 hX x5 M ⟨rfl, trivial⟩
set_option maxHeartbeats 4000000 in
set_option maxRecDepth 100000 in
theorem w_X6_bears_148 {l : Launch} {G : GL} {ad : Nat → Nat} {MM : Mem} {X : CT} (hX : Cx l { frames := 7, cells := 0, slots := 0, locals := 177 } cX6_bears RX6 7 (some .int) G ad X) : ∀ (s0 : Int32) (M : Mem) {L : List (Option Value)}, lsub [none, none, none, none, none, none, none] L → KF l { frames := 7, cells := 0, slots := 0, locals := 177 } 7 G ad (EC G ad MM) (QP PostI G ad (EC G ad MM)) X (f_X6_bears_148 s0 M) L 148 [.int s0] M := by
  intro s0 M L hL
  unfold f_X6_bears_148
  refine KF.locals (lsub_le hL) ?_
  exact k_iret hX dX6_bears_148
set_option maxHeartbeats 4000000 in
set_option maxRecDepth 100000 in
theorem w_X6_bears_141 {l : Launch} {G : GL} {ad : Nat → Nat} {MM : Mem} {X : CT} (hX : Cx l { frames := 7, cells := 0, slots := 0, locals := 177 } cX6_bears RX6 7 (some .int) G ad X) : ∀ (M : Mem) {L : List (Option Value)}, lsub [none, none, none, none, none, none, none] L → KF l { frames := 7, cells := 0, slots := 0, locals := 177 } 7 G ad (EC G ad MM) (QP PostI G ad (EC G ad MM)) X (f_X6_bears_141 M) L 141 [] M := by
  intro M L hL
  unfold f_X6_bears_141
  refine KF.locals (lsub_le hL) ?_
  refine k_bipush (v := (-5)) hX rfl dX6_bears_141 ?_
  refine k_goto (tgt := 148) hX dX6_bears_143 (by decide) ?_
  exact w_X6_bears_148 hX (-5) M trivial
set_option maxHeartbeats 4000000 in
set_option maxRecDepth 100000 in
theorem w_X6_bears_51 {l : Launch} {G : GL} {ad : Nat → Nat} {MM : Mem} {X : CT} (hX : Cx l { frames := 7, cells := 0, slots := 0, locals := 177 } cX6_bears RX6 7 (some .int) G ad X) : ∀ (n : Nat), ∀ (x2 : Int32) (x4 : Int32) (x5 : Int32) (M : Mem) {L : List (Option Value)}, lsub [some (.ref (ad 0)), none, some (.int x2), none, some (.int x4), some (.int x5), none] L → KF l { frames := 7, cells := 0, slots := 0, locals := 177 } 7 G ad (EC G ad MM) (QP PostI G ad (EC G ad MM)) X (f_X6_bears_51 n x2 x4 x5 M) L 51 [] M := by
  intro n
  induction n with
  | zero =>
    intro x2 x4 x5 M L hL
    exact KF.none'
  | succ n ih =>
    intro x2 x4 x5 M L hL
    rw [f_X6_bears_51]
    refine KF.locals (lsub_le hL) ?_
    refine k_iload hX rfl dX6_bears_51 ?_
    refine k_bipush (v := (nI 64)) hX rfl dX6_bears_53 ?_
    refine k_icmp_ge (tgt := 131) hX dX6_bears_55 (by decide) (fun b1 => ?_) (fun b1 => ?_)
    · refine k_iload_n hX (i := 2) rfl rfl dX6_bears_131 ?_
      refine k_iconst (v := (nI 1)) hX rfl dX6_bears_132 ?_
      refine k_icmp_eq (tgt := 141) hX dX6_bears_133 (by decide) (fun b2 => ?_) (fun b2 => ?_)
      · exact w_X6_bears_141 hX M trivial
      refine k_iload_n hX (i := 2) rfl rfl dX6_bears_136 ?_
      refine k_iconst (v := (nI 3)) hX rfl dX6_bears_137 ?_
      refine k_icmp_ne (tgt := 146) hX dX6_bears_138 (by decide) (fun b3 => ?_) (fun b3 => ?_)
      · refine k_iload hX rfl dX6_bears_146 ?_
        exact w_X6_bears_148 hX x4 M trivial
      exact w_X6_bears_141 hX M trivial
    refine k_iload_n hX (i := 2) rfl rfl dX6_bears_58 ?_
    refine k_iconst (v := (nI 2)) hX rfl dX6_bears_59 ?_
    refine k_icmp_ge (tgt := 81) hX dX6_bears_60 (by decide) (fun b4 => ?_) (fun b4 => ?_)
    · refine k_aload_n hX (i := 0) rfl rfl dX6_bears_81 ?_
      refine k_get hX io_0 fl_X6_41 rfl dX6_bears_82 ?_
      refine k_iload hX rfl dX6_bears_85 ?_
      refine k_ald hX ia_26 dX6_bears_87 (fun v5 => ?_)
      refine k_iconst (v := (nI 1)) hX rfl dX6_bears_88 ?_
      refine k_icmp_ne (tgt := 96) hX dX6_bears_89 (by decide) (fun b6 => ?_) (fun b6 => ?_)
      · refine k_iconst (v := (nI 0)) hX rfl dX6_bears_96 ?_
        exact w_X6_bears_97 hX ih x2 x4 x5 (nI 0) M ⟨rfl, rfl, rfl, rfl, trivial⟩
      refine k_iconst (v := (nI 1)) hX rfl dX6_bears_92 ?_
      refine k_goto (tgt := 97) hX dX6_bears_93 (by decide) ?_
      exact w_X6_bears_97 hX ih x2 x4 x5 (nI 1) M ⟨rfl, rfl, rfl, rfl, trivial⟩
    refine k_aload_n hX (i := 0) rfl rfl dX6_bears_63 ?_
    refine k_get hX io_0 fl_X6_41 rfl dX6_bears_64 ?_
    refine k_iload hX rfl dX6_bears_67 ?_
    refine k_ald hX ia_26 dX6_bears_69 (fun v7 => ?_)
    refine k_if_eq (tgt := 77) hX dX6_bears_70 (by decide) (fun b8 => ?_) (fun b8 => ?_)
    · refine k_iconst (v := (nI 0)) hX rfl dX6_bears_77 ?_
      refine k_goto (tgt := 97) hX dX6_bears_78 (by decide) ?_
      exact w_X6_bears_97 hX ih x2 x4 x5 (nI 0) M ⟨rfl, rfl, rfl, rfl, trivial⟩
    refine k_iconst (v := (nI 1)) hX rfl dX6_bears_73 ?_
    refine k_goto (tgt := 97) hX dX6_bears_74 (by decide) ?_
    exact w_X6_bears_97 hX ih x2 x4 x5 (nI 1) M ⟨rfl, rfl, rfl, rfl, trivial⟩
set_option maxHeartbeats 4000000 in
set_option maxRecDepth 100000 in
theorem w_X6_bears {l : Launch} {G : GL} {ad : Nat → Nat} {MM : Mem} {X : CT} (hX : Cx l { frames := 7, cells := 0, slots := 0, locals := 177 } cX6_bears RX6 7 (some .int) G ad X) {p1 : Int32} {p2 : Int32} {M : Mem} : KF l { frames := 7, cells := 0, slots := 0, locals := 177 } 7 G ad (EC G ad MM) (QP PostI G ad (EC G ad MM)) X (f_X6_bears p1 p2 M) [some (.ref (ad 0)), some (.int p1), some (.int p2), none, none, none, none] 0 [] M := by
  unfold f_X6_bears
  refine k_aload_n hX (i := 0) rfl rfl dX6_bears_0 ?_
  refine k_gets hX io_0 fl_X6_59 rfl dX6_bears_1 (fun c1 hc1 => ?_)
  refine k_iload_n hX (i := 1) rfl rfl dX6_bears_4 ?_
  refine k_callVQ (vs := [.int p1]) hX (fun _ h9 => m_X4_find hX.2.2.2.2.2.2.1 hc1 h9) (io_S hc1) rfl ml_X6_135 ⟨Nat.le_of_ble_eq_true rfl, Nat.le_of_ble_eq_true rfl⟩ rfl rfl (Nat.le_of_ble_eq_true rfl) dX6_bears_5 (fun q2 => ?_)
  refine k_astore_nQ (L' := [some (.ref (ad 0)), some (.int p1), some (.int p2), some (va_rf (nqv ad q2.1)), none, none, none]) hX (i := 3) rfl (by decide) rfl dX6_bears_8 ?_
  refine k_aload_nQ hX (i := 3) rfl rfl dX6_bears_9 ?_
  refine k_ifnonnullQ (tgt := 15) hX dX6_bears_10 (by decide) (fun b3 => ?_) (fun b3 => ?_)
  · refine k_iload_n hX (i := 2) rfl rfl dX6_bears_15 ?_
    refine k_if_lt (tgt := 24) hX dX6_bears_16 (by decide) (fun b4 => ?_) (fun b4 => ?_)
    · exact w_X6_bears_24 hX q2.2 trivial
    refine k_iload_n hX (i := 2) rfl rfl dX6_bears_19 ?_
    refine k_iconst (v := (nI 3)) hX rfl dX6_bears_20 ?_
    refine k_icmp_le (tgt := 27) hX dX6_bears_21 (by decide) (fun b5 => ?_) (fun b5 => ?_)
    · refine k_aload_n hX (i := 0) rfl rfl dX6_bears_27 ?_
      refine k_gets hX io_0 fl_X6_59 rfl dX6_bears_28 (fun c6 hc6 => ?_)
      refine k_get hX (io_S hc6) fl_X6_65 rfl dX6_bears_31 ?_
      refine k_if_eq (tgt := 40) hX dX6_bears_34 (by decide) (fun b7 => ?_) (fun b7 => ?_)
      · refine k_aload_n hX (i := 0) rfl rfl dX6_bears_40 ?_
        refine k_aloadW (i := 3) rfl (fun c8 hc8 => ?_)
        refine KF.locals (L' := [some (.ref (ad 0)), some (.int p1), some (.int p2), some (.ref (ad c8)), none, none, none]) (fun _ _ h9 => h9) ?_
        refine k_aload_n hX (i := 3) rfl rfl dX6_bears_41 ?_
        refine k_callVV (vs := [.ref (ad c8)]) hX (fun _ h9 => m_X6_findOutcomes hX.2.2.2.2.2.2.1 hc8 h9) io_0 rfl ml_X6_204 ⟨Nat.le_of_ble_eq_true rfl, Nat.le_of_ble_eq_true rfl⟩ rfl rfl (Nat.le_of_ble_eq_true rfl) dX6_bears_42 (fun q9 => ?_)
        refine k_iconst (v := (nI 0)) hX rfl dX6_bears_45 ?_
        refine k_istore (L' := [some (.ref (ad 0)), some (.int p1), some (.int p2), some (.ref (ad c8)), some (.int (nI 0)), none, none]) hX (by decide) rfl dX6_bears_46 ?_
        refine k_iconst (v := (nI 0)) hX rfl dX6_bears_48 ?_
        refine k_istore (L' := [some (.ref (ad 0)), some (.int p1), some (.int p2), some (.ref (ad c8)), some (.int (nI 0)), some (.int (nI 0)), none]) hX (by decide) rfl dX6_bears_49 ?_
        exact w_X6_bears_51 hX fuelN p2 (nI 0) (nI 0) q9.2 ⟨rfl, rfl, rfl, rfl, trivial⟩
      refine k_bipush (v := (-4)) hX rfl dX6_bears_37 ?_
      exact k_iret hX dX6_bears_39
    exact w_X6_bears_24 hX q2.2 trivial
  refine k_iconst (v := (-1)) hX rfl dX6_bears_13 ?_
  exact k_iret hX dX6_bears_14
set_option maxRecDepth 100000 in
theorem m_X6_bears {l : Launch} {G : GL} {ad : Nat → Nat} {MM : Mem} (hAd : AdOK G ad) {p1 : Int32} {p2 : Int32} {M : Mem} {r : Rv} (h : f_X6_bears p1 p2 M = some r) : Ct PostI l G ad (EC G ad MM) yX6_bears cX6_bears 7 (some .int) 7 177 [.ref (ad 0), .int p1, .int p2] M r := ct_of' hAd (by decide +kernel) (List.forall_mem_cons.mpr ⟨rfl, (List.forall_mem_cons.mpr ⟨rfl, (List.forall_mem_cons.mpr ⟨rfl, (fun _ h => absurd h List.not_mem_nil)⟩)⟩)⟩) (Nat.le_of_ble_eq_true rfl) (L := [some (.ref (ad 0)), some (.int p1), some (.int p2), none, none, none, none]) rfl (fun _ hX => w_X6_bears hX) h
set_option maxHeartbeats 4000000 in
set_option maxRecDepth 100000 in
theorem w_X6_open_45 {l : Launch} {G : GL} {ad : Nat → Nat} {MM : Mem} {X : CT} (hX : Cx l { frames := 2, cells := 0, slots := 0, locals := 47 } cX6_open RX6 3 (some .int) G ad X) {k9 : Int32 → Int32 → Mem → Option Rv} (hk9 : ∀ (x1 : Int32) (x2 : Int32) (M : Mem) {L : List (Option Value)}, lsub [some (.ref (ad 0)), some (.int x1), some (.int x2)] L → KF l { frames := 2, cells := 0, slots := 0, locals := 47 } 3 G ad (EC G ad MM) (QP PostI G ad (EC G ad MM)) X (k9 x1 x2 M) L 9 [] M) : ∀ (x1 : Int32) (x2 : Int32) (M : Mem) {L : List (Option Value)}, lsub [some (.ref (ad 0)), some (.int x1), some (.int x2)] L → KF l { frames := 2, cells := 0, slots := 0, locals := 47 } 3 G ad (EC G ad MM) (QP PostI G ad (EC G ad MM)) X (f_X6_open_45 k9 x1 x2 M) L 45 [] M := by
  intro x1 x2 M L hL
  unfold f_X6_open_45
  refine KF.locals (lsub_le hL) ?_
  refine k_iinc (v := x2 + nI 1) (L' := [some (.ref (ad 0)), some (.int x1), some (.int (x2 + nI 1))]) hX (i := 2) rfl rfl (by decide) rfl dX6_open_45 ?_
  refine k_goto (tgt := 9) hX dX6_open_48 (by decide) ?_
  exact hk9 x1 (x2 + nI 1) M ⟨rfl, rfl, rfl, trivial⟩
set_option maxHeartbeats 4000000 in
set_option maxRecDepth 100000 in
theorem w_X6_open_9 {l : Launch} {G : GL} {ad : Nat → Nat} {MM : Mem} {X : CT} (hX : Cx l { frames := 2, cells := 0, slots := 0, locals := 47 } cX6_open RX6 3 (some .int) G ad X) : ∀ (n : Nat), ∀ (x1 : Int32) (x2 : Int32) (M : Mem) {L : List (Option Value)}, lsub [some (.ref (ad 0)), some (.int x1), some (.int x2)] L → KF l { frames := 2, cells := 0, slots := 0, locals := 47 } 3 G ad (EC G ad MM) (QP PostI G ad (EC G ad MM)) X (f_X6_open_9 n x1 x2 M) L 9 [] M := by
  intro n
  induction n with
  | zero =>
    intro x1 x2 M L hL
    exact KF.none'
  | succ n ih =>
    intro x1 x2 M L hL
    rw [f_X6_open_9]
    refine KF.locals (lsub_le hL) ?_
    refine k_iload_n hX (i := 2) rfl rfl dX6_open_9 ?_
    refine k_aload_n hX (i := 0) rfl rfl dX6_open_10 ?_
    refine k_gets hX io_0 fl_X6_59 rfl dX6_open_11 (fun c1 hc1 => ?_)
    refine k_get hX (io_S hc1) fl_X6_77 rfl dX6_open_14 ?_
    refine k_icmp_ge (tgt := 51) hX dX6_open_17 (by decide) (fun b2 => ?_) (fun b2 => ?_)
    · refine k_bipush (v := (-5)) hX rfl dX6_open_51 ?_
      exact k_iret hX dX6_open_53
    refine k_aload_n hX (i := 0) rfl rfl dX6_open_20 ?_
    refine k_gets hX io_0 fl_X6_59 rfl dX6_open_21 (fun c3 hc3 => ?_)
    refine k_iload_n hX (i := 2) rfl rfl dX6_open_24 ?_
    refine k_callVI (vs := [.int x2]) hX (fun _ h9 => m_X4_isOpen hX.2.2.2.2.2.2.1 hc3 h9) (io_S hc3) rfl ml_X6_207 ⟨Nat.le_of_ble_eq_true rfl, Nat.le_of_ble_eq_true rfl⟩ rfl rfl (Nat.le_of_ble_eq_true rfl) dX6_open_25 (fun q4 => ?_)
    refine k_if_eq (tgt := 45) hX dX6_open_28 (by decide) (fun b5 => ?_) (fun b5 => ?_)
    · exact w_X6_open_45 hX ih x1 x2 q4.2 ⟨rfl, rfl, rfl, trivial⟩
    refine k_aload_n hX (i := 0) rfl rfl dX6_open_31 ?_
    refine k_gets hX io_0 fl_X6_59 rfl dX6_open_32 (fun c6 hc6 => ?_)
    refine k_iload_n hX (i := 2) rfl rfl dX6_open_35 ?_
    refine k_callVI (vs := [.int x2]) hX (fun _ h9 => m_X4_rankOfOpen hX.2.2.2.2.2.2.1 hc6 h9) (io_S hc6) rfl ml_X6_210 ⟨Nat.le_of_ble_eq_true rfl, Nat.le_of_ble_eq_true rfl⟩ rfl rfl (Nat.le_of_ble_eq_true rfl) dX6_open_36 (fun q7 => ?_)
    refine k_iload_n hX (i := 1) rfl rfl dX6_open_39 ?_
    refine k_icmp_ne (tgt := 45) hX dX6_open_40 (by decide) (fun b8 => ?_) (fun b8 => ?_)
    · exact w_X6_open_45 hX ih x1 x2 q7.2 ⟨rfl, rfl, rfl, trivial⟩
    refine k_iload_n hX (i := 2) rfl rfl dX6_open_43 ?_
    exact k_iret hX dX6_open_44
set_option maxHeartbeats 4000000 in
set_option maxRecDepth 100000 in
theorem w_X6_open {l : Launch} {G : GL} {ad : Nat → Nat} {MM : Mem} {X : CT} (hX : Cx l { frames := 2, cells := 0, slots := 0, locals := 47 } cX6_open RX6 3 (some .int) G ad X) {p1 : Int32} {M : Mem} : KF l { frames := 2, cells := 0, slots := 0, locals := 47 } 3 G ad (EC G ad MM) (QP PostI G ad (EC G ad MM)) X (f_X6_open p1 M) [some (.ref (ad 0)), some (.int p1), none] 0 [] M := by
  unfold f_X6_open
  refine k_iload_n hX (i := 1) rfl rfl dX6_open_0 ?_
  refine k_if_ge (tgt := 7) hX dX6_open_1 (by decide) (fun b1 => ?_) (fun b1 => ?_)
  · refine k_iconst (v := (nI 0)) hX rfl dX6_open_7 ?_
    refine k_istore_n (L' := [some (.ref (ad 0)), some (.int p1), some (.int (nI 0))]) hX (i := 2) rfl (by decide) rfl dX6_open_8 ?_
    exact w_X6_open_9 hX fuelN p1 (nI 0) M ⟨rfl, rfl, rfl, trivial⟩
  refine k_bipush (v := (-2)) hX rfl dX6_open_4 ?_
  exact k_iret hX dX6_open_6
set_option maxRecDepth 100000 in
theorem m_X6_open {l : Launch} {G : GL} {ad : Nat → Nat} {MM : Mem} (hAd : AdOK G ad) {p1 : Int32} {M : Mem} {r : Rv} (h : f_X6_open p1 M = some r) : Ct PostI l G ad (EC G ad MM) yX6_open cX6_open 3 (some .int) 2 47 [.ref (ad 0), .int p1] M r := ct_of' hAd (by decide +kernel) (List.forall_mem_cons.mpr ⟨rfl, (List.forall_mem_cons.mpr ⟨rfl, (fun _ h => absurd h List.not_mem_nil)⟩)⟩) (Nat.le_of_ble_eq_true rfl) (L := [some (.ref (ad 0)), some (.int p1), none]) rfl (fun _ hX => w_X6_open hX) h
set_option maxHeartbeats 4000000 in
set_option maxRecDepth 100000 in
theorem w_X6_at_32 {l : Launch} {G : GL} {ad : Nat → Nat} {MM : Mem} {X : CT} (hX : Cx l { frames := 0, cells := 0, slots := 0, locals := 0 } cX6_at RX6 2 (some .int) G ad X) : ∀ (s0 : Int32) (M : Mem) {L : List (Option Value)}, lsub [none, none] L → KF l { frames := 0, cells := 0, slots := 0, locals := 0 } 2 G ad (EC G ad MM) (QP PostI G ad (EC G ad MM)) X (f_X6_at_32 s0 M) L 32 [.int s0] M := by
  intro s0 M L hL
  unfold f_X6_at_32
  refine KF.locals (lsub_le hL) ?_
  exact k_iret hX dX6_at_32
set_option maxHeartbeats 4000000 in
set_option maxRecDepth 100000 in
theorem w_X6_at {l : Launch} {G : GL} {ad : Nat → Nat} {MM : Mem} {X : CT} (hX : Cx l { frames := 0, cells := 0, slots := 0, locals := 0 } cX6_at RX6 2 (some .int) G ad X) {p1 : Int32} {M : Mem} : KF l { frames := 0, cells := 0, slots := 0, locals := 0 } 2 G ad (EC G ad MM) (QP PostI G ad (EC G ad MM)) X (f_X6_at p1 M) [some (.ref (ad 0)), some (.int p1)] 0 [] M := by
  unfold f_X6_at
  refine k_iload_n hX (i := 1) rfl rfl dX6_at_0 ?_
  refine k_if_ge (tgt := 7) hX dX6_at_1 (by decide) (fun b1 => ?_) (fun b1 => ?_)
  · refine k_iload_n hX (i := 1) rfl rfl dX6_at_7 ?_
    refine k_aload_n hX (i := 0) rfl rfl dX6_at_8 ?_
    refine k_gets hX io_0 fl_X6_59 rfl dX6_at_9 (fun c2 hc2 => ?_)
    refine k_get hX (io_S hc2) fl_X6_69 rfl dX6_at_12 ?_
    refine k_icmp_ge (tgt := 30) hX dX6_at_15 (by decide) (fun b3 => ?_) (fun b3 => ?_)
    · refine k_bipush (v := (-5)) hX rfl dX6_at_30 ?_
      exact w_X6_at_32 hX (-5) M trivial
    refine k_aload_n hX (i := 0) rfl rfl dX6_at_18 ?_
    refine k_gets hX io_0 fl_X6_59 rfl dX6_at_19 (fun c4 hc4 => ?_)
    refine k_get hX (io_S hc4) fl_X6_107 rfl dX6_at_22 ?_
    refine k_iload_n hX (i := 1) rfl rfl dX6_at_25 ?_
    refine k_ald hX (ia_S1 hc4) dX6_at_26 (fun v5 => ?_)
    refine k_goto (tgt := 32) hX dX6_at_27 (by decide) ?_
    exact w_X6_at_32 hX v5 M trivial
  refine k_bipush (v := (-2)) hX rfl dX6_at_4 ?_
  exact k_iret hX dX6_at_6
set_option maxRecDepth 100000 in
theorem m_X6_at {l : Launch} {G : GL} {ad : Nat → Nat} {MM : Mem} (hAd : AdOK G ad) {p1 : Int32} {M : Mem} {r : Rv} (h : f_X6_at p1 M = some r) : Ct PostI l G ad (EC G ad MM) yX6_at cX6_at 2 (some .int) 0 0 [.ref (ad 0), .int p1] M r := ct_of' hAd (by decide +kernel) (List.forall_mem_cons.mpr ⟨rfl, (List.forall_mem_cons.mpr ⟨rfl, (fun _ h => absurd h List.not_mem_nil)⟩)⟩) (Nat.le_of_ble_eq_true rfl) (L := [some (.ref (ad 0)), some (.int p1)]) rfl (fun _ hX => w_X6_at hX) h
set_option maxHeartbeats 4000000 in
set_option maxRecDepth 100000 in
theorem w_X6_count_75 {l : Launch} {G : GL} {ad : Nat → Nat} {MM : Mem} {X : CT} (hX : Cx l { frames := 2, cells := 0, slots := 0, locals := 43 } cX6_count RX6 2 (some .int) G ad X) : ∀ (s0 : Int32) (M : Mem) {L : List (Option Value)}, lsub [none, none] L → KF l { frames := 2, cells := 0, slots := 0, locals := 43 } 2 G ad (EC G ad MM) (QP PostI G ad (EC G ad MM)) X (f_X6_count_75 s0 M) L 75 [.int s0] M := by
  intro s0 M L hL
  unfold f_X6_count_75
  refine KF.locals (lsub_le hL) ?_
  exact k_iret hX dX6_count_75
set_option maxHeartbeats 4000000 in
set_option maxRecDepth 100000 in
theorem w_X6_count {l : Launch} {G : GL} {ad : Nat → Nat} {MM : Mem} {X : CT} (hX : Cx l { frames := 2, cells := 0, slots := 0, locals := 43 } cX6_count RX6 2 (some .int) G ad X) {p1 : Int32} {M : Mem} : KF l { frames := 2, cells := 0, slots := 0, locals := 43 } 2 G ad (EC G ad MM) (QP PostI G ad (EC G ad MM)) X (f_X6_count p1 M) [some (.ref (ad 0)), some (.int p1)] 0 [] M := by
  unfold f_X6_count
  refine k_iload_n hX (i := 1) rfl rfl dX6_count_0 ?_
  refine KF.ite (fun b1 => ?_) (fun b1 => ?_)
  · refine k_tabIn (tgt := 52) hX b1 dX6_count_1 (by decide) (by decide) rfl (by decide) ?_
    refine k_aload_n hX (i := 0) rfl rfl dX6_count_52 ?_
    refine k_gets hX io_0 fl_X6_59 rfl dX6_count_53 (fun c2 hc2 => ?_)
    refine k_get hX (io_S hc2) fl_X6_69 rfl dX6_count_56 ?_
    exact k_iret hX dX6_count_59
  refine KF.ite (fun b3 => ?_) (fun b3 => ?_)
  · refine k_tabIn (tgt := 60) hX b3 dX6_count_1 (by decide) (by decide) rfl (by decide) ?_
    refine k_aload_n hX (i := 0) rfl rfl dX6_count_60 ?_
    refine k_gets hX io_0 fl_X6_59 rfl dX6_count_61 (fun c4 hc4 => ?_)
    refine k_get hX (io_S hc4) fl_X6_65 rfl dX6_count_64 ?_
    refine k_if_eq (tgt := 74) hX dX6_count_67 (by decide) (fun b5 => ?_) (fun b5 => ?_)
    · refine k_iconst (v := (nI 0)) hX rfl dX6_count_74 ?_
      exact w_X6_count_75 hX (nI 0) M trivial
    refine k_iconst (v := (nI 1)) hX rfl dX6_count_70 ?_
    refine k_goto (tgt := 75) hX dX6_count_71 (by decide) ?_
    exact w_X6_count_75 hX (nI 1) M trivial
  refine KF.ite (fun b6 => ?_) (fun b6 => ?_)
  · refine k_tabIn (tgt := 76) hX b6 dX6_count_1 (by decide) (by decide) rfl (by decide) ?_
    refine k_aload_n hX (i := 0) rfl rfl dX6_count_76 ?_
    refine k_gets hX io_0 fl_X6_59 rfl dX6_count_77 (fun c7 hc7 => ?_)
    refine k_callVI (vs := []) hX (fun _ h9 => m_X4_howManyThere hX.2.2.2.2.2.2.1 hc7 h9) (io_S hc7) rfl ml_X6_147 ⟨Nat.le_of_ble_eq_true rfl, Nat.le_of_ble_eq_true rfl⟩ rfl rfl (Nat.le_of_ble_eq_true rfl) dX6_count_80 (fun q8 => ?_)
    exact k_iret hX dX6_count_83
  refine KF.ite (fun b9 => ?_) (fun b9 => ?_)
  · refine k_tabIn (tgt := 84) hX b9 dX6_count_1 (by decide) (by decide) rfl (by decide) ?_
    refine k_aload_n hX (i := 0) rfl rfl dX6_count_84 ?_
    refine k_gets hX io_0 fl_X6_59 rfl dX6_count_85 (fun c10 hc10 => ?_)
    refine k_get hX (io_S hc10) fl_X6_77 rfl dX6_count_88 ?_
    exact k_iret hX dX6_count_91
  refine KF.ite (fun b11 => ?_) (fun b11 => ?_)
  · refine k_tabIn (tgt := 92) hX b11 dX6_count_1 (by decide) (by decide) rfl (by decide) ?_
    refine k_aload_n hX (i := 0) rfl rfl dX6_count_92 ?_
    refine k_gets hX io_0 fl_X6_59 rfl dX6_count_93 (fun c12 hc12 => ?_)
    refine k_iconst (v := (nI 2)) hX rfl dX6_count_96 ?_
    refine k_callVI (vs := [.int (nI 2)]) hX (fun _ h9 => m_X4_howMany hX.2.2.2.2.2.2.1 hc12 h9) (io_S hc12) rfl ml_X6_213 ⟨Nat.le_of_ble_eq_true rfl, Nat.le_of_ble_eq_true rfl⟩ rfl rfl (Nat.le_of_ble_eq_true rfl) dX6_count_97 (fun q13 => ?_)
    exact k_iret hX dX6_count_100
  refine KF.ite (fun b14 => ?_) (fun b14 => ?_)
  · refine k_tabIn (tgt := 101) hX b14 dX6_count_1 (by decide) (by decide) rfl (by decide) ?_
    refine k_aload_n hX (i := 0) rfl rfl dX6_count_101 ?_
    refine k_gets hX io_0 fl_X6_59 rfl dX6_count_102 (fun c15 hc15 => ?_)
    refine k_iconst (v := (nI 0)) hX rfl dX6_count_105 ?_
    refine k_callVI (vs := [.int (nI 0)]) hX (fun _ h9 => m_X4_howMany hX.2.2.2.2.2.2.1 hc15 h9) (io_S hc15) rfl ml_X6_213 ⟨Nat.le_of_ble_eq_true rfl, Nat.le_of_ble_eq_true rfl⟩ rfl rfl (Nat.le_of_ble_eq_true rfl) dX6_count_106 (fun q16 => ?_)
    exact k_iret hX dX6_count_109
  refine KF.ite (fun b17 => ?_) (fun b17 => ?_)
  · refine k_tabIn (tgt := 110) hX b17 dX6_count_1 (by decide) (by decide) rfl (by decide) ?_
    refine k_aload_n hX (i := 0) rfl rfl dX6_count_110 ?_
    refine k_gets hX io_0 fl_X6_59 rfl dX6_count_111 (fun c18 hc18 => ?_)
    refine k_iconst (v := (nI 1)) hX rfl dX6_count_114 ?_
    refine k_callVI (vs := [.int (nI 1)]) hX (fun _ h9 => m_X4_howMany hX.2.2.2.2.2.2.1 hc18 h9) (io_S hc18) rfl ml_X6_213 ⟨Nat.le_of_ble_eq_true rfl, Nat.le_of_ble_eq_true rfl⟩ rfl rfl (Nat.le_of_ble_eq_true rfl) dX6_count_115 (fun q19 => ?_)
    exact k_iret hX dX6_count_118
  refine KF.ite (fun b20 => ?_) (fun b20 => ?_)
  · refine k_tabIn (tgt := 119) hX b20 dX6_count_1 (by decide) (by decide) rfl (by decide) ?_
    refine k_aload_n hX (i := 0) rfl rfl dX6_count_119 ?_
    refine k_get hX io_0 fl_X6_157 rfl dX6_count_120 ?_
    exact k_iret hX dX6_count_123
  refine KF.ite (fun b21 => ?_) (fun b21 => ?_)
  · refine k_tabIn (tgt := 124) hX b21 dX6_count_1 (by decide) (by decide) rfl (by decide) ?_
    refine k_aload_n hX (i := 0) rfl rfl dX6_count_124 ?_
    refine k_get hX io_0 fl_X6_37 rfl dX6_count_125 ?_
    refine k_get hX io_22 fl_X6_154 rfl dX6_count_128 ?_
    exact k_iret hX dX6_count_131
  replace b1 := ne_toInt (k := 0) b1 (by decide)
  replace b3 := ne_toInt (k := 1) b3 (by decide)
  replace b6 := ne_toInt (k := 2) b6 (by decide)
  replace b9 := ne_toInt (k := 3) b9 (by decide)
  replace b11 := ne_toInt (k := 4) b11 (by decide)
  replace b14 := ne_toInt (k := 5) b14 (by decide)
  replace b17 := ne_toInt (k := 6) b17 (by decide)
  replace b20 := ne_toInt (k := 7) b20 (by decide)
  replace b21 := ne_toInt (k := 8) b21 (by decide)
  refine k_tabOut (tgt := 132) hX dX6_count_1 (by omega) (by decide) ?_
  refine k_bipush (v := (-2)) hX rfl dX6_count_132 ?_
  exact k_iret hX dX6_count_134
set_option maxRecDepth 100000 in
theorem m_X6_count {l : Launch} {G : GL} {ad : Nat → Nat} {MM : Mem} (hAd : AdOK G ad) {p1 : Int32} {M : Mem} {r : Rv} (h : f_X6_count p1 M = some r) : Ct PostI l G ad (EC G ad MM) yX6_count cX6_count 2 (some .int) 2 43 [.ref (ad 0), .int p1] M r := ct_of' hAd (by decide +kernel) (List.forall_mem_cons.mpr ⟨rfl, (List.forall_mem_cons.mpr ⟨rfl, (fun _ h => absurd h List.not_mem_nil)⟩)⟩) (Nat.le_of_ble_eq_true rfl) (L := [some (.ref (ad 0)), some (.int p1)]) rfl (fun _ hX => w_X6_count hX) h
set_option maxHeartbeats 4000000 in
set_option maxRecDepth 100000 in
theorem w_X7_in_15 {l : Launch} {G : GL} {ad : Nat → Nat} {MM : Mem} {X : CT} (hX : Cx l { frames := 0, cells := 0, slots := 0, locals := 0 } cX7_in RX7 3 (some .boolean) G ad X) : ∀ (s0 : Int32) (M : Mem) {L : List (Option Value)}, lsub [none, none, none] L → KF l { frames := 0, cells := 0, slots := 0, locals := 0 } 3 G ad (EM G ad MM) (QP PostI G ad (EM G ad MM)) X (f_X7_in_15 s0 M) L 15 [.int s0] M := by
  intro s0 M L hL
  unfold f_X7_in_15
  refine KF.locals (lsub_le hL) ?_
  exact k_zret hX dX7_in_15
set_option maxHeartbeats 4000000 in
set_option maxRecDepth 100000 in
theorem w_X7_in_14 {l : Launch} {G : GL} {ad : Nat → Nat} {MM : Mem} {X : CT} (hX : Cx l { frames := 0, cells := 0, slots := 0, locals := 0 } cX7_in RX7 3 (some .boolean) G ad X) : ∀ (M : Mem) {L : List (Option Value)}, lsub [none, none, none] L → KF l { frames := 0, cells := 0, slots := 0, locals := 0 } 3 G ad (EM G ad MM) (QP PostI G ad (EM G ad MM)) X (f_X7_in_14 M) L 14 [] M := by
  intro M L hL
  unfold f_X7_in_14
  refine KF.locals (lsub_le hL) ?_
  refine k_iconst (v := (nI 0)) hX rfl dX7_in_14 ?_
  exact w_X7_in_15 hX (nI 0) M trivial
set_option maxHeartbeats 4000000 in
set_option maxRecDepth 100000 in
theorem w_X7_in {l : Launch} {G : GL} {ad : Nat → Nat} {MM : Mem} {X : CT} (hX : Cx l { frames := 0, cells := 0, slots := 0, locals := 0 } cX7_in RX7 3 (some .boolean) G ad X) {p1 : Int32} {p2 : Int32} {p3 : Int32} {M : Mem} : KF l { frames := 0, cells := 0, slots := 0, locals := 0 } 3 G ad (EM G ad MM) (QP PostI G ad (EM G ad MM)) X (f_X7_in p1 p2 p3 M) [some (.int p1), some (.int p2), some (.int p3)] 0 [] M := by
  unfold f_X7_in
  refine k_iload_n hX (i := 0) rfl rfl dX7_in_0 ?_
  refine k_iload_n hX (i := 1) rfl rfl dX7_in_1 ?_
  refine k_icmp_lt (tgt := 14) hX dX7_in_2 (by decide) (fun b1 => ?_) (fun b1 => ?_)
  · exact w_X7_in_14 hX M trivial
  refine k_iload_n hX (i := 0) rfl rfl dX7_in_5 ?_
  refine k_iload_n hX (i := 2) rfl rfl dX7_in_6 ?_
  refine k_icmp_gt (tgt := 14) hX dX7_in_7 (by decide) (fun b2 => ?_) (fun b2 => ?_)
  · exact w_X7_in_14 hX M trivial
  refine k_iconst (v := (nI 1)) hX rfl dX7_in_10 ?_
  refine k_goto (tgt := 15) hX dX7_in_11 (by decide) ?_
  exact w_X7_in_15 hX (nI 1) M trivial
set_option maxRecDepth 100000 in
theorem m_X7_in {l : Launch} {G : GL} {ad : Nat → Nat} {MM : Mem} (hAd : AdOK G ad) {p1 : Int32} {p2 : Int32} {p3 : Int32} {M : Mem} {r : Rv} (h : f_X7_in p1 p2 p3 M = some r) : Ct PostI l G ad (EM G ad MM) yX7_in cX7_in 3 (some .boolean) 0 0 [.int p1, .int p2, .int p3] M r := ct_of' hAd (by decide +kernel) (List.forall_mem_cons.mpr ⟨rfl, (List.forall_mem_cons.mpr ⟨rfl, (List.forall_mem_cons.mpr ⟨rfl, (fun _ h => absurd h List.not_mem_nil)⟩)⟩)⟩) (Nat.le_of_ble_eq_true rfl) (L := [some (.int p1), some (.int p2), some (.int p3)]) rfl (fun _ hX => w_X7_in hX) h
set_option maxHeartbeats 4000000 in
set_option maxRecDepth 100000 in
theorem w_X7_record_50 {l : Launch} {G : GL} {ad : Nat → Nat} {MM : Mem} {X : CT} (hX : Cx l { frames := 0, cells := 0, slots := 0, locals := 0 } cX7_record RX7 2 none G ad X) : ∀ (n : Nat), ∀ (x1 : Int32) (M : Mem) {L : List (Option Value)}, lsub [some (.ref (ad 218)), some (.int x1)] L → KF l { frames := 0, cells := 0, slots := 0, locals := 0 } 2 G ad (EM G ad MM) (QP PostV G ad (EM G ad MM)) X (f_X7_record_50 n x1 M) L 50 [] M := by
  intro n
  induction n with
  | zero =>
    intro x1 M L hL
    exact KF.none'
  | succ n ih =>
    intro x1 M L hL
    rw [f_X7_record_50]
    refine KF.locals (lsub_le hL) ?_
    refine k_iload_n hX (i := 1) rfl rfl dX7_record_50 ?_
    refine k_sipush (v := (nI 31088)) hX rfl dX7_record_51 ?_
    refine k_icmp_ge (tgt := 84) hX dX7_record_54 (by decide) (fun b1 => ?_) (fun b1 => ?_)
    · refine k_aload_n hX (i := 0) rfl rfl dX7_record_84 ?_
      refine k_dup hX rfl dX7_record_85 ?_
      refine k_get hX io_218 fl_X7_65 rfl dX7_record_86 ?_
      refine k_iconst (v := (nI 1)) hX rfl dX7_record_89 ?_
      refine k_iadd hX dX7_record_90 ?_
      refine k_puti hX locM io_218 fp_X7_65 (Nat.le_of_ble_eq_true rfl) rfl dX7_record_91 (fun M2 => ?_)
      exact k_vret hX dX7_record_94
    refine k_aload_n hX (i := 0) rfl rfl dX7_record_57 ?_
    refine k_get hX io_218 fl_X7_14 rfl dX7_record_58 ?_
    refine k_sipush (v := (nI 31088)) hX rfl dX7_record_61 ?_
    refine k_aload_n hX (i := 0) rfl rfl dX7_record_64 ?_
    refine k_get hX io_218 fl_X7_65 rfl dX7_record_65 ?_
    refine k_imul hX dX7_record_68 ?_
    refine k_iload_n hX (i := 1) rfl rfl dX7_record_69 ?_
    refine k_iadd hX dX7_record_70 ?_
    refine k_aload_n hX (i := 0) rfl rfl dX7_record_71 ?_
    refine k_get hX io_218 fl_X7_7 rfl dX7_record_72 ?_
    refine k_iload_n hX (i := 1) rfl rfl dX7_record_75 ?_
    refine k_ald hX ia_219 dX7_record_76 (fun v3 => ?_)
    refine k_ast hX locM ia_220 dX7_record_77 (fun M4 => ?_)
    refine k_iinc (v := x1 + nI 1) (L' := [some (.ref (ad 218)), some (.int (x1 + nI 1))]) hX (i := 1) rfl rfl (by decide) rfl dX7_record_78 ?_
    refine k_goto (tgt := 50) hX dX7_record_81 (by decide) ?_
    exact ih (x1 + nI 1) M4 ⟨rfl, rfl, trivial⟩
set_option maxHeartbeats 4000000 in
set_option maxRecDepth 100000 in
theorem w_X7_record_48 {l : Launch} {G : GL} {ad : Nat → Nat} {MM : Mem} {X : CT} (hX : Cx l { frames := 0, cells := 0, slots := 0, locals := 0 } cX7_record RX7 2 none G ad X) : ∀ (M : Mem) {L : List (Option Value)}, lsub [some (.ref (ad 218)), none] L → KF l { frames := 0, cells := 0, slots := 0, locals := 0 } 2 G ad (EM G ad MM) (QP PostV G ad (EM G ad MM)) X (f_X7_record_48 M) L 48 [] M := by
  intro M L hL
  unfold f_X7_record_48
  refine KF.locals (lsub_le hL) ?_
  refine k_iconst (v := (nI 0)) hX rfl dX7_record_48 ?_
  refine k_istore_n (L' := [some (.ref (ad 218)), some (.int (nI 0))]) hX (i := 1) rfl (by decide) rfl dX7_record_49 ?_
  exact w_X7_record_50 hX fuelN (nI 0) M ⟨rfl, rfl, trivial⟩
set_option maxHeartbeats 4000000 in
set_option maxRecDepth 100000 in
theorem w_X7_record_10 {l : Launch} {G : GL} {ad : Nat → Nat} {MM : Mem} {X : CT} (hX : Cx l { frames := 0, cells := 0, slots := 0, locals := 0 } cX7_record RX7 2 none G ad X) : ∀ (n : Nat), ∀ (x1 : Int32) (M : Mem) {L : List (Option Value)}, lsub [some (.ref (ad 218)), some (.int x1)] L → KF l { frames := 0, cells := 0, slots := 0, locals := 0 } 2 G ad (EM G ad MM) (QP PostV G ad (EM G ad MM)) X (f_X7_record_10 n x1 M) L 10 [] M := by
  intro n
  induction n with
  | zero =>
    intro x1 M L hL
    exact KF.none'
  | succ n ih =>
    intro x1 M L hL
    rw [f_X7_record_10]
    refine KF.locals (lsub_le hL) ?_
    refine k_iload_n hX (i := 1) rfl rfl dX7_record_10 ?_
    refine k_ldc (v := nI 93264) hX (mem_big 898 (by decide +kernel) rfl) dX7_record_11 ?_
    refine k_icmp_ge (tgt := 38) hX dX7_record_13 (by decide) (fun b1 => ?_) (fun b1 => ?_)
    · refine k_aload_n hX (i := 0) rfl rfl dX7_record_38 ?_
      refine k_dup hX rfl dX7_record_39 ?_
      refine k_get hX io_218 fl_X7_65 rfl dX7_record_40 ?_
      refine k_iconst (v := (nI 1)) hX rfl dX7_record_43 ?_
      refine k_isub hX dX7_record_44 ?_
      refine k_puti hX locM io_218 fp_X7_65 (Nat.le_of_ble_eq_true rfl) rfl dX7_record_45 (fun M2 => ?_)
      exact w_X7_record_48 hX M2 ⟨rfl, trivial⟩
    refine k_aload_n hX (i := 0) rfl rfl dX7_record_16 ?_
    refine k_get hX io_218 fl_X7_14 rfl dX7_record_17 ?_
    refine k_iload_n hX (i := 1) rfl rfl dX7_record_20 ?_
    refine k_aload_n hX (i := 0) rfl rfl dX7_record_21 ?_
    refine k_get hX io_218 fl_X7_14 rfl dX7_record_22 ?_
    refine k_sipush (v := (nI 31088)) hX rfl dX7_record_25 ?_
    refine k_iload_n hX (i := 1) rfl rfl dX7_record_28 ?_
    refine k_iadd hX dX7_record_29 ?_
    refine k_ald hX ia_220 dX7_record_30 (fun v3 => ?_)
    refine k_ast hX locM ia_220 dX7_record_31 (fun M4 => ?_)
    refine k_iinc (v := x1 + nI 1) (L' := [some (.ref (ad 218)), some (.int (x1 + nI 1))]) hX (i := 1) rfl rfl (by decide) rfl dX7_record_32 ?_
    refine k_goto (tgt := 10) hX dX7_record_35 (by decide) ?_
    exact ih (x1 + nI 1) M4 ⟨rfl, rfl, trivial⟩
set_option maxHeartbeats 4000000 in
set_option maxRecDepth 100000 in
theorem w_X7_record {l : Launch} {G : GL} {ad : Nat → Nat} {MM : Mem} {X : CT} (hX : Cx l { frames := 0, cells := 0, slots := 0, locals := 0 } cX7_record RX7 2 none G ad X) {M : Mem} : KF l { frames := 0, cells := 0, slots := 0, locals := 0 } 2 G ad (EM G ad MM) (QP PostV G ad (EM G ad MM)) X (f_X7_record M) [some (.ref (ad 218)), none] 0 [] M := by
  unfold f_X7_record
  refine k_aload_n hX (i := 0) rfl rfl dX7_record_0 ?_
  refine k_get hX io_218 fl_X7_65 rfl dX7_record_1 ?_
  refine k_iconst (v := (nI 4)) hX rfl dX7_record_4 ?_
  refine k_icmp_ne (tgt := 48) hX dX7_record_5 (by decide) (fun b1 => ?_) (fun b1 => ?_)
  · exact w_X7_record_48 hX M ⟨rfl, trivial⟩
  refine k_iconst (v := (nI 0)) hX rfl dX7_record_8 ?_
  refine k_istore_n (L' := [some (.ref (ad 218)), some (.int (nI 0))]) hX (i := 1) rfl (by decide) rfl dX7_record_9 ?_
  exact w_X7_record_10 hX fuelN (nI 0) M ⟨rfl, rfl, trivial⟩
set_option maxRecDepth 100000 in
theorem m_X7_record {l : Launch} {G : GL} {ad : Nat → Nat} {MM : Mem} (hAd : AdOK G ad) {M : Mem} {r : Rv} (h : f_X7_record M = some r) : Ct PostV l G ad (EM G ad MM) yX7_record cX7_record 2 none 0 0 [.ref (ad 218)] M r := ct_of' hAd (by decide +kernel) (List.forall_mem_cons.mpr ⟨rfl, (fun _ h => absurd h List.not_mem_nil)⟩) (Nat.le_of_ble_eq_true rfl) (L := [some (.ref (ad 218)), none]) rfl (fun _ hX => w_X7_record hX) h
set_option maxHeartbeats 4000000 in
set_option maxRecDepth 100000 in
theorem w_X7_w {l : Launch} {G : GL} {ad : Nat → Nat} {MM : Mem} {X : CT} (hX : Cx l { frames := 0, cells := 0, slots := 0, locals := 0 } cX7_w RX7 1 (some .int) G ad X) {p1 : Int32} {M : Mem} : KF l { frames := 0, cells := 0, slots := 0, locals := 0 } 1 G ad (EM G ad MM) (QP PostI G ad (EM G ad MM)) X (f_X7_w p1 M) [some (.int p1)] 0 [] M := by
  unfold f_X7_w
  refine k_bipush (v := (nI 48)) hX rfl dX7_w_0 ?_
  refine k_bipush (v := (nI 8)) hX rfl dX7_w_2 ?_
  refine k_iload_n hX (i := 0) rfl rfl dX7_w_4 ?_
  refine k_imul hX dX7_w_5 ?_
  refine k_iadd hX dX7_w_6 ?_
  exact k_iret hX dX7_w_7
set_option maxRecDepth 100000 in
theorem m_X7_w {l : Launch} {G : GL} {ad : Nat → Nat} {MM : Mem} (hAd : AdOK G ad) {p1 : Int32} {M : Mem} {r : Rv} (h : f_X7_w p1 M = some r) : Ct PostI l G ad (EM G ad MM) yX7_w cX7_w 1 (some .int) 0 0 [.int p1] M r := ct_of' hAd (by decide +kernel) (List.forall_mem_cons.mpr ⟨rfl, (fun _ h => absurd h List.not_mem_nil)⟩) (Nat.le_of_ble_eq_true rfl) (L := [some (.int p1)]) rfl (fun _ hX => w_X7_w hX) h
set_option maxHeartbeats 4000000 in
set_option maxRecDepth 100000 in
theorem w_X7_cell {l : Launch} {G : GL} {ad : Nat → Nat} {MM : Mem} {X : CT} (hX : Cx l { frames := 0, cells := 0, slots := 0, locals := 0 } cX7_cell RX7 3 (some .int) G ad X) {p1 : Int32} {p2 : Int32} {p3 : Int32} {M : Mem} : KF l { frames := 0, cells := 0, slots := 0, locals := 0 } 3 G ad (EM G ad MM) (QP PostI G ad (EM G ad MM)) X (f_X7_cell p1 p2 p3 M) [some (.int p1), some (.int p2), some (.int p3)] 0 [] M := by
  unfold f_X7_cell
  refine k_bipush (v := (nI 112)) hX rfl dX7_cell_0 ?_
  refine k_sipush (v := (nI 484)) hX rfl dX7_cell_2 ?_
  refine k_bipush (v := (nI 8)) hX rfl dX7_cell_5 ?_
  refine k_iload_n hX (i := 0) rfl rfl dX7_cell_7 ?_
  refine k_imul hX dX7_cell_8 ?_
  refine k_iload_n hX (i := 1) rfl rfl dX7_cell_9 ?_
  refine k_iadd hX dX7_cell_10 ?_
  refine k_imul hX dX7_cell_11 ?_
  refine k_iadd hX dX7_cell_12 ?_
  refine k_iload_n hX (i := 2) rfl rfl dX7_cell_13 ?_
  refine k_iadd hX dX7_cell_14 ?_
  exact k_iret hX dX7_cell_15
set_option maxRecDepth 100000 in
theorem m_X7_cell {l : Launch} {G : GL} {ad : Nat → Nat} {MM : Mem} (hAd : AdOK G ad) {p1 : Int32} {p2 : Int32} {p3 : Int32} {M : Mem} {r : Rv} (h : f_X7_cell p1 p2 p3 M = some r) : Ct PostI l G ad (EM G ad MM) yX7_cell cX7_cell 3 (some .int) 0 0 [.int p1, .int p2, .int p3] M r := ct_of' hAd (by decide +kernel) (List.forall_mem_cons.mpr ⟨rfl, (List.forall_mem_cons.mpr ⟨rfl, (List.forall_mem_cons.mpr ⟨rfl, (fun _ h => absurd h List.not_mem_nil)⟩)⟩)⟩) (Nat.le_of_ble_eq_true rfl) (L := [some (.int p1), some (.int p2), some (.int p3)]) rfl (fun _ hX => w_X7_cell hX) h
set_option maxHeartbeats 4000000 in
set_option maxRecDepth 100000 in
theorem w_X7_isThere_36 {l : Launch} {G : GL} {ad : Nat → Nat} {MM : Mem} {X : CT} (hX : Cx l { frames := 1, cells := 0, slots := 0, locals := 22 } cX7_isThere RX7 2 (some .boolean) G ad X) : ∀ (s0 : Int32) (M : Mem) {L : List (Option Value)}, lsub [none, none] L → KF l { frames := 1, cells := 0, slots := 0, locals := 22 } 2 G ad (EM G ad MM) (QP PostI G ad (EM G ad MM)) X (f_X7_isThere_36 s0 M) L 36 [.int s0] M := by
  intro s0 M L hL
  unfold f_X7_isThere_36
  refine KF.locals (lsub_le hL) ?_
  exact k_zret hX dX7_isThere_36
set_option maxHeartbeats 4000000 in
set_option maxRecDepth 100000 in
theorem w_X7_isThere_35 {l : Launch} {G : GL} {ad : Nat → Nat} {MM : Mem} {X : CT} (hX : Cx l { frames := 1, cells := 0, slots := 0, locals := 22 } cX7_isThere RX7 2 (some .boolean) G ad X) : ∀ (M : Mem) {L : List (Option Value)}, lsub [none, none] L → KF l { frames := 1, cells := 0, slots := 0, locals := 22 } 2 G ad (EM G ad MM) (QP PostI G ad (EM G ad MM)) X (f_X7_isThere_35 M) L 35 [] M := by
  intro M L hL
  unfold f_X7_isThere_35
  refine KF.locals (lsub_le hL) ?_
  refine k_iconst (v := (nI 0)) hX rfl dX7_isThere_35 ?_
  exact w_X7_isThere_36 hX (nI 0) M trivial
set_option maxHeartbeats 4000000 in
set_option maxRecDepth 100000 in
theorem w_X7_isThere {l : Launch} {G : GL} {ad : Nat → Nat} {MM : Mem} {X : CT} (hX : Cx l { frames := 1, cells := 0, slots := 0, locals := 22 } cX7_isThere RX7 2 (some .boolean) G ad X) {p1 : Int32} {M : Mem} : KF l { frames := 1, cells := 0, slots := 0, locals := 22 } 2 G ad (EM G ad MM) (QP PostI G ad (EM G ad MM)) X (f_X7_isThere p1 M) [some (.ref (ad 218)), some (.int p1)] 0 [] M := by
  unfold f_X7_isThere
  refine k_iload_n hX (i := 1) rfl rfl dX7_isThere_0 ?_
  refine k_iconst (v := (nI 0)) hX rfl dX7_isThere_1 ?_
  refine k_aload_n hX (i := 0) rfl rfl dX7_isThere_2 ?_
  refine k_get hX io_218 fl_X7_7 rfl dX7_isThere_3 ?_
  refine k_iconst (v := (nI 2)) hX rfl dX7_isThere_6 ?_
  refine k_ald hX ia_219 dX7_isThere_7 (fun v1 => ?_)
  refine k_iconst (v := (nI 1)) hX rfl dX7_isThere_8 ?_
  refine k_isub hX dX7_isThere_9 ?_
  refine k_callSI (vs := [.int p1, .int (nI 0), .int (v1 - (nI 1))]) hX (fun _ h9 => m_X7_in hX.2.2.2.2.2.2.1  h9) ml_X7_70 ⟨Nat.le_of_ble_eq_true rfl, Nat.le_of_ble_eq_true rfl⟩ rfl rfl (Nat.le_of_ble_eq_true rfl) dX7_isThere_10 (fun q2 => ?_)
  refine k_if_eq (tgt := 35) hX dX7_isThere_13 (by decide) (fun b3 => ?_) (fun b3 => ?_)
  · exact w_X7_isThere_35 hX q2.2 trivial
  refine k_aload_n hX (i := 0) rfl rfl dX7_isThere_16 ?_
  refine k_get hX io_218 fl_X7_7 rfl dX7_isThere_17 ?_
  refine k_iload_n hX (i := 1) rfl rfl dX7_isThere_20 ?_
  refine k_callSI (vs := [.int p1]) hX (fun _ h9 => m_X7_w hX.2.2.2.2.2.2.1  h9) ml_X7_74 ⟨Nat.le_of_ble_eq_true rfl, Nat.le_of_ble_eq_true rfl⟩ rfl rfl (Nat.le_of_ble_eq_true rfl) dX7_isThere_21 (fun q4 => ?_)
  refine k_iconst (v := (nI 0)) hX rfl dX7_isThere_24 ?_
  refine k_iadd hX dX7_isThere_25 ?_
  refine k_ald hX ia_219 dX7_isThere_26 (fun v5 => ?_)
  refine k_iconst (v := (nI 1)) hX rfl dX7_isThere_27 ?_
  refine k_icmp_ne (tgt := 35) hX dX7_isThere_28 (by decide) (fun b6 => ?_) (fun b6 => ?_)
  · exact w_X7_isThere_35 hX q4.2 trivial
  refine k_iconst (v := (nI 1)) hX rfl dX7_isThere_31 ?_
  refine k_goto (tgt := 36) hX dX7_isThere_32 (by decide) ?_
  exact w_X7_isThere_36 hX (nI 1) q4.2 trivial
set_option maxRecDepth 100000 in
theorem m_X7_isThere {l : Launch} {G : GL} {ad : Nat → Nat} {MM : Mem} (hAd : AdOK G ad) {p1 : Int32} {M : Mem} {r : Rv} (h : f_X7_isThere p1 M = some r) : Ct PostI l G ad (EM G ad MM) yX7_isThere cX7_isThere 2 (some .boolean) 1 22 [.ref (ad 218), .int p1] M r := ct_of' hAd (by decide +kernel) (List.forall_mem_cons.mpr ⟨rfl, (List.forall_mem_cons.mpr ⟨rfl, (fun _ h => absurd h List.not_mem_nil)⟩)⟩) (Nat.le_of_ble_eq_true rfl) (L := [some (.ref (ad 218)), some (.int p1)]) rfl (fun _ hX => w_X7_isThere hX) h
set_option maxHeartbeats 4000000 in
set_option maxRecDepth 100000 in
theorem w_X7_verdict {l : Launch} {G : GL} {ad : Nat → Nat} {MM : Mem} {X : CT} (hX : Cx l { frames := 1, cells := 0, slots := 0, locals := 20 } cX7_verdict RX7 2 (some .int) G ad X) {p1 : Int32} {M : Mem} : KF l { frames := 1, cells := 0, slots := 0, locals := 20 } 2 G ad (EM G ad MM) (QP PostI G ad (EM G ad MM)) X (f_X7_verdict p1 M) [some (.ref (ad 218)), some (.int p1)] 0 [] M := by
  unfold f_X7_verdict
  refine k_aload_n hX (i := 0) rfl rfl dX7_verdict_0 ?_
  refine k_get hX io_218 fl_X7_7 rfl dX7_verdict_1 ?_
  refine k_iload_n hX (i := 1) rfl rfl dX7_verdict_4 ?_
  refine k_callSI (vs := [.int p1]) hX (fun _ h9 => m_X7_w hX.2.2.2.2.2.2.1  h9) ml_X7_74 ⟨Nat.le_of_ble_eq_true rfl, Nat.le_of_ble_eq_true rfl⟩ rfl rfl (Nat.le_of_ble_eq_true rfl) dX7_verdict_5 (fun q1 => ?_)
  refine k_iconst (v := (nI 1)) hX rfl dX7_verdict_8 ?_
  refine k_iadd hX dX7_verdict_9 ?_
  refine k_ald hX ia_219 dX7_verdict_10 (fun v2 => ?_)
  exact k_iret hX dX7_verdict_11
set_option maxRecDepth 100000 in
theorem m_X7_verdict {l : Launch} {G : GL} {ad : Nat → Nat} {MM : Mem} (hAd : AdOK G ad) {p1 : Int32} {M : Mem} {r : Rv} (h : f_X7_verdict p1 M = some r) : Ct PostI l G ad (EM G ad MM) yX7_verdict cX7_verdict 2 (some .int) 1 20 [.ref (ad 218), .int p1] M r := ct_of' hAd (by decide +kernel) (List.forall_mem_cons.mpr ⟨rfl, (List.forall_mem_cons.mpr ⟨rfl, (fun _ h => absurd h List.not_mem_nil)⟩)⟩) (Nat.le_of_ble_eq_true rfl) (L := [some (.ref (ad 218)), some (.int p1)]) rfl (fun _ hX => w_X7_verdict hX) h
set_option maxHeartbeats 4000000 in
set_option maxRecDepth 100000 in
theorem w_X7_empty_49 {l : Launch} {G : GL} {ad : Nat → Nat} {MM : Mem} {X : CT} (hX : Cx l { frames := 0, cells := 0, slots := 0, locals := 0 } cX7_empty RX7 2 none G ad X) {k13 : Int32 → Mem → Option Rv} (hk13 : ∀ (x1 : Int32) (M : Mem) {L : List (Option Value)}, lsub [some (.ref (ad 218)), some (.int x1)] L → KF l { frames := 0, cells := 0, slots := 0, locals := 0 } 2 G ad (EM G ad MM) (QP PostV G ad (EM G ad MM)) X (k13 x1 M) L 13 [] M) : ∀ (x1 : Int32) (s0 : Int32) (s1 : Int32) (M : Mem) {L : List (Option Value)}, lsub [some (.ref (ad 218)), some (.int x1)] L → KF l { frames := 0, cells := 0, slots := 0, locals := 0 } 2 G ad (EM G ad MM) (QP PostV G ad (EM G ad MM)) X (f_X7_empty_49 k13 x1 s0 s1 M) L 49 [.int s0, .int s1, .ref (ad 226)] M := by
  intro x1 s0 s1 M L hL
  unfold f_X7_empty_49
  refine KF.locals (lsub_le hL) ?_
  refine k_ast hX locM ia_226 dX7_empty_49 (fun M1 => ?_)
  refine k_iinc (v := x1 + nI 1) (L' := [some (.ref (ad 218)), some (.int (x1 + nI 1))]) hX (i := 1) rfl rfl (by decide) rfl dX7_empty_50 ?_
  refine k_goto (tgt := 13) hX dX7_empty_53 (by decide) ?_
  exact hk13 (x1 + nI 1) M1 ⟨rfl, rfl, trivial⟩
set_option maxHeartbeats 4000000 in
set_option maxRecDepth 100000 in
theorem w_X7_empty_13 {l : Launch} {G : GL} {ad : Nat → Nat} {MM : Mem} {X : CT} (hX : Cx l { frames := 0, cells := 0, slots := 0, locals := 0 } cX7_empty RX7 2 none G ad X) : ∀ (n : Nat), ∀ (x1 : Int32) (M : Mem) {L : List (Option Value)}, lsub [some (.ref (ad 218)), some (.int x1)] L → KF l { frames := 0, cells := 0, slots := 0, locals := 0 } 2 G ad (EM G ad MM) (QP PostV G ad (EM G ad MM)) X (f_X7_empty_13 n x1 M) L 13 [] M := by
  intro n
  induction n with
  | zero =>
    intro x1 M L hL
    exact KF.none'
  | succ n ih =>
    intro x1 M L hL
    rw [f_X7_empty_13]
    refine KF.locals (lsub_le hL) ?_
    refine k_iload_n hX (i := 1) rfl rfl dX7_empty_13 ?_
    refine k_bipush (v := (nI 16)) hX rfl dX7_empty_14 ?_
    refine k_icmp_ge (tgt := 56) hX dX7_empty_16 (by decide) (fun b1 => ?_) (fun b1 => ?_)
    · exact k_vret hX dX7_empty_56
    refine k_aload_n hX (i := 0) rfl rfl dX7_empty_19 ?_
    refine k_get hX io_218 fl_X7_20 rfl dX7_empty_20 ?_
    refine k_iload_n hX (i := 1) rfl rfl dX7_empty_23 ?_
    refine k_iconst (v := (nI 0)) hX rfl dX7_empty_24 ?_
    refine k_ast hX locM ia_222 dX7_empty_25 (fun M2 => ?_)
    refine k_aload_n hX (i := 0) rfl rfl dX7_empty_26 ?_
    refine k_get hX io_218 fl_X7_29 rfl dX7_empty_27 ?_
    refine k_iload_n hX (i := 1) rfl rfl dX7_empty_30 ?_
    refine k_iconst (v := (nI 1)) hX rfl dX7_empty_31 ?_
    refine k_ast hX locM ia_225 dX7_empty_32 (fun M3 => ?_)
    refine k_aload_n hX (i := 0) rfl rfl dX7_empty_33 ?_
    refine k_get hX io_218 fl_X7_32 rfl dX7_empty_34 ?_
    refine k_iload_n hX (i := 1) rfl rfl dX7_empty_37 ?_
    refine k_iload_n hX (i := 1) rfl rfl dX7_empty_38 ?_
    refine k_bipush (v := (nI 10)) hX rfl dX7_empty_39 ?_
    refine k_icmp_lt (tgt := 48) hX dX7_empty_41 (by decide) (fun b4 => ?_) (fun b4 => ?_)
    · refine k_iconst (v := (nI 1)) hX rfl dX7_empty_48 ?_
      exact w_X7_empty_49 hX ih x1 (nI 1) x1 M3 ⟨rfl, rfl, trivial⟩
    refine k_iconst (v := (nI 2)) hX rfl dX7_empty_44 ?_
    refine k_goto (tgt := 49) hX dX7_empty_45 (by decide) ?_
    exact w_X7_empty_49 hX ih x1 (nI 2) x1 M3 ⟨rfl, rfl, trivial⟩
set_option maxHeartbeats 4000000 in
set_option maxRecDepth 100000 in
theorem w_X7_empty {l : Launch} {G : GL} {ad : Nat → Nat} {MM : Mem} {X : CT} (hX : Cx l { frames := 0, cells := 0, slots := 0, locals := 0 } cX7_empty RX7 2 none G ad X) {M : Mem} : KF l { frames := 0, cells := 0, slots := 0, locals := 0 } 2 G ad (EM G ad MM) (QP PostV G ad (EM G ad MM)) X (f_X7_empty M) [some (.ref (ad 218)), none] 0 [] M := by
  unfold f_X7_empty
  refine k_aload_n hX (i := 0) rfl rfl dX7_empty_0 ?_
  refine k_bipush (v := (nI 16)) hX rfl dX7_empty_1 ?_
  refine k_puti hX locM io_218 fp_X7_78 (Nat.le_of_ble_eq_true rfl) rfl dX7_empty_3 (fun M1 => ?_)
  refine k_aload_n hX (i := 0) rfl rfl dX7_empty_6 ?_
  refine k_iconst (v := (nI 0)) hX rfl dX7_empty_7 ?_
  refine k_puti hX locM io_218 fp_X7_81 (Nat.le_of_ble_eq_true rfl) rfl dX7_empty_8 (fun M2 => ?_)
  refine k_iconst (v := (nI 0)) hX rfl dX7_empty_11 ?_
  refine k_istore_n (L' := [some (.ref (ad 218)), some (.int (nI 0))]) hX (i := 1) rfl (by decide) rfl dX7_empty_12 ?_
  exact w_X7_empty_13 hX fuelN (nI 0) M2 ⟨rfl, rfl, trivial⟩
set_option maxRecDepth 100000 in
theorem m_X7_empty {l : Launch} {G : GL} {ad : Nat → Nat} {MM : Mem} (hAd : AdOK G ad) {M : Mem} {r : Rv} (h : f_X7_empty M = some r) : Ct PostV l G ad (EM G ad MM) yX7_empty cX7_empty 2 none 0 0 [.ref (ad 218)] M r := ct_of' hAd (by decide +kernel) (List.forall_mem_cons.mpr ⟨rfl, (fun _ h => absurd h List.not_mem_nil)⟩) (Nat.le_of_ble_eq_true rfl) (L := [some (.ref (ad 218)), none]) rfl (fun _ hX => w_X7_empty hX) h
set_option maxHeartbeats 4000000 in
set_option maxRecDepth 100000 in
theorem w_X7_childMany_44 {l : Launch} {G : GL} {ad : Nat → Nat} {MM : Mem} {X : CT} (hX : Cx l { frames := 0, cells := 0, slots := 0, locals := 0 } cX7_childMany RX7 2 (some .int) G ad X) : ∀ (s0 : Int32) (M : Mem) {L : List (Option Value)}, lsub [none, none] L → KF l { frames := 0, cells := 0, slots := 0, locals := 0 } 2 G ad (EM G ad MM) (QP PostI G ad (EM G ad MM)) X (f_X7_childMany_44 s0 M) L 44 [.int s0] M := by
  intro s0 M L hL
  unfold f_X7_childMany_44
  refine KF.locals (lsub_le hL) ?_
  exact k_iret hX dX7_childMany_44
set_option maxHeartbeats 4000000 in
set_option maxRecDepth 100000 in
theorem w_X7_childMany {l : Launch} {G : GL} {ad : Nat → Nat} {MM : Mem} {X : CT} (hX : Cx l { frames := 0, cells := 0, slots := 0, locals := 0 } cX7_childMany RX7 2 (some .int) G ad X) {p1 : Int32} {M : Mem} : KF l { frames := 0, cells := 0, slots := 0, locals := 0 } 2 G ad (EM G ad MM) (QP PostI G ad (EM G ad MM)) X (f_X7_childMany p1 M) [some (.ref (ad 218)), some (.int p1)] 0 [] M := by
  unfold f_X7_childMany
  refine k_iload_n hX (i := 1) rfl rfl dX7_childMany_0 ?_
  refine k_bipush (v := (nI 16)) hX rfl dX7_childMany_1 ?_
  refine k_icmp_ge (tgt := 10) hX dX7_childMany_3 (by decide) (fun b1 => ?_) (fun b1 => ?_)
  · refine k_aload_n hX (i := 0) rfl rfl dX7_childMany_10 ?_
    refine k_get hX io_218 fl_X7_20 rfl dX7_childMany_11 ?_
    refine k_iload_n hX (i := 1) rfl rfl dX7_childMany_14 ?_
    refine k_ald hX ia_222 dX7_childMany_15 (fun v2 => ?_)
    refine k_iconst (v := (nI 3)) hX rfl dX7_childMany_16 ?_
    refine k_icmp_ge (tgt := 24) hX dX7_childMany_17 (by decide) (fun b3 => ?_) (fun b3 => ?_)
    · refine k_aload_n hX (i := 0) rfl rfl dX7_childMany_24 ?_
      refine k_get hX io_218 fl_X7_20 rfl dX7_childMany_25 ?_
      refine k_iload_n hX (i := 1) rfl rfl dX7_childMany_28 ?_
      refine k_ald hX ia_222 dX7_childMany_29 (fun v4 => ?_)
      refine k_iconst (v := (nI 5)) hX rfl dX7_childMany_30 ?_
      refine k_icmp_ge (tgt := 38) hX dX7_childMany_31 (by decide) (fun b5 => ?_) (fun b5 => ?_)
      · refine k_aload_n hX (i := 0) rfl rfl dX7_childMany_38 ?_
        refine k_get hX io_218 fl_X7_26 rfl dX7_childMany_39 ?_
        refine k_iload_n hX (i := 1) rfl rfl dX7_childMany_42 ?_
        refine k_ald hX ia_224 dX7_childMany_43 (fun v6 => ?_)
        exact w_X7_childMany_44 hX v6 M trivial
      refine k_iconst (v := (nI 2)) hX rfl dX7_childMany_34 ?_
      refine k_goto (tgt := 44) hX dX7_childMany_35 (by decide) ?_
      exact w_X7_childMany_44 hX (nI 2) M trivial
    refine k_iconst (v := (nI 1)) hX rfl dX7_childMany_20 ?_
    refine k_goto (tgt := 44) hX dX7_childMany_21 (by decide) ?_
    exact w_X7_childMany_44 hX (nI 1) M trivial
  refine k_iconst (v := (nI 0)) hX rfl dX7_childMany_6 ?_
  refine k_goto (tgt := 44) hX dX7_childMany_7 (by decide) ?_
  exact w_X7_childMany_44 hX (nI 0) M trivial
set_option maxRecDepth 100000 in
theorem m_X7_childMany {l : Launch} {G : GL} {ad : Nat → Nat} {MM : Mem} (hAd : AdOK G ad) {p1 : Int32} {M : Mem} {r : Rv} (h : f_X7_childMany p1 M = some r) : Ct PostI l G ad (EM G ad MM) yX7_childMany cX7_childMany 2 (some .int) 0 0 [.ref (ad 218), .int p1] M r := ct_of' hAd (by decide +kernel) (List.forall_mem_cons.mpr ⟨rfl, (List.forall_mem_cons.mpr ⟨rfl, (fun _ h => absurd h List.not_mem_nil)⟩)⟩) (Nat.le_of_ble_eq_true rfl) (L := [some (.ref (ad 218)), some (.int p1)]) rfl (fun _ hX => w_X7_childMany hX) h
set_option maxHeartbeats 4000000 in
set_option maxRecDepth 100000 in
theorem w_X7_child_45 {l : Launch} {G : GL} {ad : Nat → Nat} {MM : Mem} {X : CT} (hX : Cx l { frames := 0, cells := 0, slots := 0, locals := 0 } cX7_child RX7 3 (some .int) G ad X) : ∀ (s0 : Int32) (M : Mem) {L : List (Option Value)}, lsub [none, none, none] L → KF l { frames := 0, cells := 0, slots := 0, locals := 0 } 3 G ad (EM G ad MM) (QP PostI G ad (EM G ad MM)) X (f_X7_child_45 s0 M) L 45 [.int s0] M := by
  intro s0 M L hL
  unfold f_X7_child_45
  refine KF.locals (lsub_le hL) ?_
  exact k_iret hX dX7_child_45
set_option maxHeartbeats 4000000 in
set_option maxRecDepth 100000 in
theorem w_X7_child {l : Launch} {G : GL} {ad : Nat → Nat} {MM : Mem} {X : CT} (hX : Cx l { frames := 0, cells := 0, slots := 0, locals := 0 } cX7_child RX7 3 (some .int) G ad X) {p1 : Int32} {p2 : Int32} {M : Mem} : KF l { frames := 0, cells := 0, slots := 0, locals := 0 } 3 G ad (EM G ad MM) (QP PostI G ad (EM G ad MM)) X (f_X7_child p1 p2 M) [some (.ref (ad 218)), some (.int p1), some (.int p2)] 0 [] M := by
  unfold f_X7_child
  refine k_aload_n hX (i := 0) rfl rfl dX7_child_0 ?_
  refine k_get hX io_218 fl_X7_20 rfl dX7_child_1 ?_
  refine k_iload_n hX (i := 1) rfl rfl dX7_child_4 ?_
  refine k_ald hX ia_222 dX7_child_5 (fun v1 => ?_)
  refine k_iconst (v := (nI 5)) hX rfl dX7_child_6 ?_
  refine k_icmp_lt (tgt := 26) hX dX7_child_7 (by decide) (fun b2 => ?_) (fun b2 => ?_)
  · refine k_iload_n hX (i := 2) rfl rfl dX7_child_26 ?_
    refine k_if_ne (tgt := 39) hX dX7_child_27 (by decide) (fun b3 => ?_) (fun b3 => ?_)
    · refine k_aload_n hX (i := 0) rfl rfl dX7_child_39 ?_
      refine k_get hX io_218 fl_X7_26 rfl dX7_child_40 ?_
      refine k_iload_n hX (i := 1) rfl rfl dX7_child_43 ?_
      refine k_ald hX ia_224 dX7_child_44 (fun v4 => ?_)
      exact w_X7_child_45 hX v4 M trivial
    refine k_aload_n hX (i := 0) rfl rfl dX7_child_30 ?_
    refine k_get hX io_218 fl_X7_23 rfl dX7_child_31 ?_
    refine k_iload_n hX (i := 1) rfl rfl dX7_child_34 ?_
    refine k_ald hX ia_223 dX7_child_35 (fun v5 => ?_)
    refine k_goto (tgt := 45) hX dX7_child_36 (by decide) ?_
    exact w_X7_child_45 hX v5 M trivial
  refine k_aload_n hX (i := 0) rfl rfl dX7_child_10 ?_
  refine k_get hX io_218 fl_X7_43 rfl dX7_child_11 ?_
  refine k_aload_n hX (i := 0) rfl rfl dX7_child_14 ?_
  refine k_get hX io_218 fl_X7_23 rfl dX7_child_15 ?_
  refine k_iload_n hX (i := 1) rfl rfl dX7_child_18 ?_
  refine k_ald hX ia_223 dX7_child_19 (fun v6 => ?_)
  refine k_iload_n hX (i := 2) rfl rfl dX7_child_20 ?_
  refine k_iadd hX dX7_child_21 ?_
  refine k_ald hX ia_229 dX7_child_22 (fun v7 => ?_)
  refine k_goto (tgt := 45) hX dX7_child_23 (by decide) ?_
  exact w_X7_child_45 hX v7 M trivial
set_option maxRecDepth 100000 in
theorem m_X7_child {l : Launch} {G : GL} {ad : Nat → Nat} {MM : Mem} (hAd : AdOK G ad) {p1 : Int32} {p2 : Int32} {M : Mem} {r : Rv} (h : f_X7_child p1 p2 M = some r) : Ct PostI l G ad (EM G ad MM) yX7_child cX7_child 3 (some .int) 0 0 [.ref (ad 218), .int p1, .int p2] M r := ct_of' hAd (by decide +kernel) (List.forall_mem_cons.mpr ⟨rfl, (List.forall_mem_cons.mpr ⟨rfl, (List.forall_mem_cons.mpr ⟨rfl, (fun _ h => absurd h List.not_mem_nil)⟩)⟩)⟩) (Nat.le_of_ble_eq_true rfl) (L := [some (.ref (ad 218)), some (.int p1), some (.int p2)]) rfl (fun _ hX => w_X7_child hX) h
set_option maxHeartbeats 4000000 in
set_option maxRecDepth 100000 in
theorem w_X7_make_49 {l : Launch} {G : GL} {ad : Nat → Nat} {MM : Mem} {X : CT} (hX : Cx l { frames := 0, cells := 0, slots := 0, locals := 0 } cX7_make RX7 5 (some .int) G ad X) {k4 : Int32 → Int32 → Int32 → Int32 → Mem → Option Rv} (hk4 : ∀ (x1 : Int32) (x2 : Int32) (x3 : Int32) (x4 : Int32) (M : Mem) {L : List (Option Value)}, lsub [some (.ref (ad 218)), some (.int x1), some (.int x2), some (.int x3), some (.int x4)] L → KF l { frames := 0, cells := 0, slots := 0, locals := 0 } 5 G ad (EM G ad MM) (QP PostI G ad (EM G ad MM)) X (k4 x1 x2 x3 x4 M) L 4 [] M) : ∀ (x1 : Int32) (x2 : Int32) (x3 : Int32) (x4 : Int32) (M : Mem) {L : List (Option Value)}, lsub [some (.ref (ad 218)), some (.int x1), some (.int x2), some (.int x3), some (.int x4)] L → KF l { frames := 0, cells := 0, slots := 0, locals := 0 } 5 G ad (EM G ad MM) (QP PostI G ad (EM G ad MM)) X (f_X7_make_49 k4 x1 x2 x3 x4 M) L 49 [] M := by
  intro x1 x2 x3 x4 M L hL
  unfold f_X7_make_49
  refine KF.locals (lsub_le hL) ?_
  refine k_iinc (v := x4 + nI 1) (L' := [some (.ref (ad 218)), some (.int x1), some (.int x2), some (.int x3), some (.int (x4 + nI 1))]) hX (i := 4) rfl rfl (by decide) rfl dX7_make_49 ?_
  refine k_goto (tgt := 4) hX dX7_make_52 (by decide) ?_
  exact hk4 x1 x2 x3 (x4 + nI 1) M ⟨rfl, rfl, rfl, rfl, rfl, trivial⟩
set_option maxHeartbeats 4000000 in
set_option maxRecDepth 100000 in
theorem w_X7_make_157 {l : Launch} {G : GL} {ad : Nat → Nat} {MM : Mem} {X : CT} (hX : Cx l { frames := 0, cells := 0, slots := 0, locals := 0 } cX7_make RX7 5 (some .int) G ad X) : ∀ (s0 : Int32) (s1 : Int32) (M : Mem) {L : List (Option Value)}, lsub [some (.ref (ad 218)), none, none, none, none] L → KF l { frames := 0, cells := 0, slots := 0, locals := 0 } 5 G ad (EM G ad MM) (QP PostI G ad (EM G ad MM)) X (f_X7_make_157 s0 s1 M) L 157 [.int s0, .int s1, .ref (ad 226)] M := by
  intro s0 s1 M L hL
  unfold f_X7_make_157
  refine KF.locals (lsub_le hL) ?_
  refine k_ast hX locM ia_226 dX7_make_157 (fun M1 => ?_)
  refine k_aload_n hX (i := 0) rfl rfl dX7_make_158 ?_
  refine k_dup hX rfl dX7_make_159 ?_
  refine k_get hX io_218 fl_X7_78 rfl dX7_make_160 ?_
  refine k_iconst (v := (nI 1)) hX rfl dX7_make_163 ?_
  refine k_iadd hX dX7_make_164 ?_
  refine k_puti hX locM io_218 fp_X7_78 (Nat.le_of_ble_eq_true rfl) rfl dX7_make_165 (fun M2 => ?_)
  refine k_aload_n hX (i := 0) rfl rfl dX7_make_168 ?_
  refine k_get hX io_218 fl_X7_78 rfl dX7_make_169 ?_
  refine k_iconst (v := (nI 1)) hX rfl dX7_make_172 ?_
  refine k_isub hX dX7_make_173 ?_
  exact k_iret hX dX7_make_174
set_option maxHeartbeats 4000000 in
set_option maxRecDepth 100000 in
theorem w_X7_make_116 {l : Launch} {G : GL} {ad : Nat → Nat} {MM : Mem} {X : CT} (hX : Cx l { frames := 0, cells := 0, slots := 0, locals := 0 } cX7_make RX7 5 (some .int) G ad X) : ∀ (x1 : Int32) (x2 : Int32) (x3 : Int32) (s0 : Int32) (s1 : Int32) (s2 : Int32) (M : Mem) {L : List (Option Value)}, lsub [some (.ref (ad 218)), some (.int x1), some (.int x2), some (.int x3), none] L → KF l { frames := 0, cells := 0, slots := 0, locals := 0 } 5 G ad (EM G ad MM) (QP PostI G ad (EM G ad MM)) X (f_X7_make_116 x1 x2 x3 s0 s1 s2 M) L 116 [.int s0, .int s1, .int s2, .ref (ad 225)] M := by
  intro x1 x2 x3 s0 s1 s2 M L hL
  unfold f_X7_make_116
  refine KF.locals (lsub_le hL) ?_
  refine k_iadd hX dX7_make_116 ?_
  refine k_ast hX locM ia_225 dX7_make_117 (fun M1 => ?_)
  refine k_aload_n hX (i := 0) rfl rfl dX7_make_118 ?_
  refine k_get hX io_218 fl_X7_32 rfl dX7_make_119 ?_
  refine k_aload_n hX (i := 0) rfl rfl dX7_make_122 ?_
  refine k_get hX io_218 fl_X7_78 rfl dX7_make_123 ?_
  refine k_iload_n hX (i := 1) rfl rfl dX7_make_126 ?_
  refine k_iconst (v := (nI 3)) hX rfl dX7_make_127 ?_
  refine k_icmp_ge (tgt := 142) hX dX7_make_128 (by decide) (fun b2 => ?_) (fun b2 => ?_)
  · refine k_iconst (v := (nI 3)) hX rfl dX7_make_142 ?_
    refine k_aload_n hX (i := 0) rfl rfl dX7_make_143 ?_
    refine k_get hX io_218 fl_X7_32 rfl dX7_make_144 ?_
    refine k_iload_n hX (i := 2) rfl rfl dX7_make_147 ?_
    refine k_ald hX ia_226 dX7_make_148 (fun v3 => ?_)
    refine k_iadd hX dX7_make_149 ?_
    refine k_aload_n hX (i := 0) rfl rfl dX7_make_150 ?_
    refine k_get hX io_218 fl_X7_32 rfl dX7_make_151 ?_
    refine k_iload_n hX (i := 3) rfl rfl dX7_make_154 ?_
    refine k_ald hX ia_226 dX7_make_155 (fun v4 => ?_)
    refine k_iadd hX dX7_make_156 ?_
    exact w_X7_make_157 hX (((nI 3) + v3) + v4) (M1 218 11) M1 ⟨rfl, trivial⟩
  refine k_iconst (v := (nI 1)) hX rfl dX7_make_131 ?_
  refine k_aload_n hX (i := 0) rfl rfl dX7_make_132 ?_
  refine k_get hX io_218 fl_X7_32 rfl dX7_make_133 ?_
  refine k_iload_n hX (i := 2) rfl rfl dX7_make_136 ?_
  refine k_ald hX ia_226 dX7_make_137 (fun v5 => ?_)
  refine k_iadd hX dX7_make_138 ?_
  refine k_goto (tgt := 157) hX dX7_make_139 (by decide) ?_
  exact w_X7_make_157 hX ((nI 1) + v5) (M1 218 11) M1 ⟨rfl, trivial⟩
set_option maxHeartbeats 4000000 in
set_option maxRecDepth 100000 in
theorem w_X7_make_4 {l : Launch} {G : GL} {ad : Nat → Nat} {MM : Mem} {X : CT} (hX : Cx l { frames := 0, cells := 0, slots := 0, locals := 0 } cX7_make RX7 5 (some .int) G ad X) : ∀ (n : Nat), ∀ (x1 : Int32) (x2 : Int32) (x3 : Int32) (x4 : Int32) (M : Mem) {L : List (Option Value)}, lsub [some (.ref (ad 218)), some (.int x1), some (.int x2), some (.int x3), some (.int x4)] L → KF l { frames := 0, cells := 0, slots := 0, locals := 0 } 5 G ad (EM G ad MM) (QP PostI G ad (EM G ad MM)) X (f_X7_make_4 n x1 x2 x3 x4 M) L 4 [] M := by
  intro n
  induction n with
  | zero =>
    intro x1 x2 x3 x4 M L hL
    exact KF.none'
  | succ n ih =>
    intro x1 x2 x3 x4 M L hL
    rw [f_X7_make_4]
    refine KF.locals (lsub_le hL) ?_
    refine k_iload hX rfl dX7_make_4 ?_
    refine k_aload_n hX (i := 0) rfl rfl dX7_make_6 ?_
    refine k_get hX io_218 fl_X7_78 rfl dX7_make_7 ?_
    refine k_icmp_ge (tgt := 55) hX dX7_make_10 (by decide) (fun b1 => ?_) (fun b1 => ?_)
    · refine k_aload_n hX (i := 0) rfl rfl dX7_make_55 ?_
      refine k_get hX io_218 fl_X7_20 rfl dX7_make_56 ?_
      refine k_aload_n hX (i := 0) rfl rfl dX7_make_59 ?_
      refine k_get hX io_218 fl_X7_78 rfl dX7_make_60 ?_
      refine k_iload_n hX (i := 1) rfl rfl dX7_make_63 ?_
      refine k_ast hX locM ia_222 dX7_make_64 (fun M2 => ?_)
      refine k_aload_n hX (i := 0) rfl rfl dX7_make_65 ?_
      refine k_get hX io_218 fl_X7_23 rfl dX7_make_66 ?_
      refine k_aload_n hX (i := 0) rfl rfl dX7_make_69 ?_
      refine k_get hX io_218 fl_X7_78 rfl dX7_make_70 ?_
      refine k_iload_n hX (i := 2) rfl rfl dX7_make_73 ?_
      refine k_ast hX locM ia_223 dX7_make_74 (fun M3 => ?_)
      refine k_aload_n hX (i := 0) rfl rfl dX7_make_75 ?_
      refine k_get hX io_218 fl_X7_26 rfl dX7_make_76 ?_
      refine k_aload_n hX (i := 0) rfl rfl dX7_make_79 ?_
      refine k_get hX io_218 fl_X7_78 rfl dX7_make_80 ?_
      refine k_iload_n hX (i := 3) rfl rfl dX7_make_83 ?_
      refine k_ast hX locM ia_224 dX7_make_84 (fun M4 => ?_)
      refine k_aload_n hX (i := 0) rfl rfl dX7_make_85 ?_
      refine k_get hX io_218 fl_X7_29 rfl dX7_make_86 ?_
      refine k_aload_n hX (i := 0) rfl rfl dX7_make_89 ?_
      refine k_get hX io_218 fl_X7_78 rfl dX7_make_90 ?_
      refine k_iconst (v := (nI 1)) hX rfl dX7_make_93 ?_
      refine k_aload_n hX (i := 0) rfl rfl dX7_make_94 ?_
      refine k_get hX io_218 fl_X7_29 rfl dX7_make_95 ?_
      refine k_iload_n hX (i := 2) rfl rfl dX7_make_98 ?_
      refine k_ald hX ia_225 dX7_make_99 (fun v5 => ?_)
      refine k_iadd hX dX7_make_100 ?_
      refine k_iload_n hX (i := 1) rfl rfl dX7_make_101 ?_
      refine k_iconst (v := (nI 3)) hX rfl dX7_make_102 ?_
      refine k_icmp_ge (tgt := 110) hX dX7_make_103 (by decide) (fun b6 => ?_) (fun b6 => ?_)
      · refine k_aload_n hX (i := 0) rfl rfl dX7_make_110 ?_
        refine k_get hX io_218 fl_X7_29 rfl dX7_make_111 ?_
        refine k_iload_n hX (i := 3) rfl rfl dX7_make_114 ?_
        refine k_ald hX ia_225 dX7_make_115 (fun v7 => ?_)
        exact w_X7_make_116 hX x1 x2 x3 v7 ((nI 1) + v5) (M4 218 11) M4 ⟨rfl, rfl, rfl, rfl, trivial⟩
      refine k_iconst (v := (nI 0)) hX rfl dX7_make_106 ?_
      refine k_goto (tgt := 116) hX dX7_make_107 (by decide) ?_
      exact w_X7_make_116 hX x1 x2 x3 (nI 0) ((nI 1) + v5) (M4 218 11) M4 ⟨rfl, rfl, rfl, rfl, trivial⟩
    refine k_aload_n hX (i := 0) rfl rfl dX7_make_13 ?_
    refine k_get hX io_218 fl_X7_20 rfl dX7_make_14 ?_
    refine k_iload hX rfl dX7_make_17 ?_
    refine k_ald hX ia_222 dX7_make_19 (fun v8 => ?_)
    refine k_iload_n hX (i := 1) rfl rfl dX7_make_20 ?_
    refine k_icmp_ne (tgt := 49) hX dX7_make_21 (by decide) (fun b9 => ?_) (fun b9 => ?_)
    · exact w_X7_make_49 hX ih x1 x2 x3 x4 M ⟨rfl, rfl, rfl, rfl, rfl, trivial⟩
    refine k_aload_n hX (i := 0) rfl rfl dX7_make_24 ?_
    refine k_get hX io_218 fl_X7_23 rfl dX7_make_25 ?_
    refine k_iload hX rfl dX7_make_28 ?_
    refine k_ald hX ia_223 dX7_make_30 (fun v10 => ?_)
    refine k_iload_n hX (i := 2) rfl rfl dX7_make_31 ?_
    refine k_icmp_ne (tgt := 49) hX dX7_make_32 (by decide) (fun b11 => ?_) (fun b11 => ?_)
    · exact w_X7_make_49 hX ih x1 x2 x3 x4 M ⟨rfl, rfl, rfl, rfl, rfl, trivial⟩
    refine k_aload_n hX (i := 0) rfl rfl dX7_make_35 ?_
    refine k_get hX io_218 fl_X7_26 rfl dX7_make_36 ?_
    refine k_iload hX rfl dX7_make_39 ?_
    refine k_ald hX ia_224 dX7_make_41 (fun v12 => ?_)
    refine k_iload_n hX (i := 3) rfl rfl dX7_make_42 ?_
    refine k_icmp_ne (tgt := 49) hX dX7_make_43 (by decide) (fun b13 => ?_) (fun b13 => ?_)
    · exact w_X7_make_49 hX ih x1 x2 x3 x4 M ⟨rfl, rfl, rfl, rfl, rfl, trivial⟩
    refine k_iload hX rfl dX7_make_46 ?_
    exact k_iret hX dX7_make_48
set_option maxHeartbeats 4000000 in
set_option maxRecDepth 100000 in
theorem w_X7_make {l : Launch} {G : GL} {ad : Nat → Nat} {MM : Mem} {X : CT} (hX : Cx l { frames := 0, cells := 0, slots := 0, locals := 0 } cX7_make RX7 5 (some .int) G ad X) {p1 : Int32} {p2 : Int32} {p3 : Int32} {M : Mem} : KF l { frames := 0, cells := 0, slots := 0, locals := 0 } 5 G ad (EM G ad MM) (QP PostI G ad (EM G ad MM)) X (f_X7_make p1 p2 p3 M) [some (.ref (ad 218)), some (.int p1), some (.int p2), some (.int p3), none] 0 [] M := by
  unfold f_X7_make
  refine k_bipush (v := (nI 16)) hX rfl dX7_make_0 ?_
  refine k_istore (L' := [some (.ref (ad 218)), some (.int p1), some (.int p2), some (.int p3), some (.int (nI 16))]) hX (by decide) rfl dX7_make_2 ?_
  exact w_X7_make_4 hX fuelN p1 p2 p3 (nI 16) M ⟨rfl, rfl, rfl, rfl, rfl, trivial⟩
set_option maxRecDepth 100000 in
theorem m_X7_make {l : Launch} {G : GL} {ad : Nat → Nat} {MM : Mem} (hAd : AdOK G ad) {p1 : Int32} {p2 : Int32} {p3 : Int32} {M : Mem} {r : Rv} (h : f_X7_make p1 p2 p3 M = some r) : Ct PostI l G ad (EM G ad MM) yX7_make cX7_make 5 (some .int) 0 0 [.ref (ad 218), .int p1, .int p2, .int p3] M r := ct_of' hAd (by decide +kernel) (List.forall_mem_cons.mpr ⟨rfl, (List.forall_mem_cons.mpr ⟨rfl, (List.forall_mem_cons.mpr ⟨rfl, (List.forall_mem_cons.mpr ⟨rfl, (fun _ h => absurd h List.not_mem_nil)⟩)⟩)⟩)⟩) (Nat.le_of_ble_eq_true rfl) (L := [some (.ref (ad 218)), some (.int p1), some (.int p2), some (.int p3), none]) rfl (fun _ hX => w_X7_make hX) h
set_option maxHeartbeats 4000000 in
set_option maxRecDepth 100000 in
theorem w_X7_isList_74 {l : Launch} {G : GL} {ad : Nat → Nat} {MM : Mem} {X : CT} (hX : Cx l { frames := 0, cells := 0, slots := 0, locals := 0 } cX7_isList RX7 5 (some .boolean) G ad X) {k32 : Int32 → Int32 → Int32 → Mem → Option Rv} (hk32 : ∀ (x1 : Int32) (x3 : Int32) (x4 : Int32) (M : Mem) {L : List (Option Value)}, lsub [some (.ref (ad 218)), some (.int x1), none, some (.int x3), some (.int x4)] L → KF l { frames := 0, cells := 0, slots := 0, locals := 0 } 5 G ad (EM G ad MM) (QP PostI G ad (EM G ad MM)) X (k32 x1 x3 x4 M) L 32 [] M) : ∀ (x1 : Int32) (x4 : Int32) (s0 : Int32) (M : Mem) {L : List (Option Value)}, lsub [some (.ref (ad 218)), some (.int x1), none, none, some (.int x4)] L → KF l { frames := 0, cells := 0, slots := 0, locals := 0 } 5 G ad (EM G ad MM) (QP PostI G ad (EM G ad MM)) X (f_X7_isList_74 k32 x1 x4 s0 M) L 74 [.int s0] M := by
  intro x1 x4 s0 M L hL
  unfold f_X7_isList_74
  refine KF.locals (lsub_le hL) ?_
  refine k_istore_n (L' := [some (.ref (ad 218)), some (.int x1), none, some (.int s0), some (.int x4)]) hX (i := 3) rfl (by decide) rfl dX7_isList_74 ?_
  refine k_iinc (v := x4 + nI 1) (L' := [some (.ref (ad 218)), some (.int x1), none, some (.int s0), some (.int (x4 + nI 1))]) hX (i := 4) rfl rfl (by decide) rfl dX7_isList_75 ?_
  refine k_goto (tgt := 32) hX dX7_isList_78 (by decide) ?_
  exact hk32 x1 s0 (x4 + nI 1) M ⟨rfl, rfl, rfl, rfl, trivial⟩
set_option maxHeartbeats 4000000 in
set_option maxRecDepth 100000 in
theorem w_X7_isList_81 {l : Launch} {G : GL} {ad : Nat → Nat} {MM : Mem} {X : CT} (hX : Cx l { frames := 0, cells := 0, slots := 0, locals := 0 } cX7_isList RX7 5 (some .boolean) G ad X) : ∀ (x3 : Int32) (M : Mem) {L : List (Option Value)}, lsub [none, none, none, some (.int x3), none] L → KF l { frames := 0, cells := 0, slots := 0, locals := 0 } 5 G ad (EM G ad MM) (QP PostI G ad (EM G ad MM)) X (f_X7_isList_81 x3 M) L 81 [] M := by
  intro x3 M L hL
  unfold f_X7_isList_81
  refine KF.locals (lsub_le hL) ?_
  refine k_iload_n hX (i := 3) rfl rfl dX7_isList_81 ?_
  exact k_zret hX dX7_isList_82
set_option maxHeartbeats 4000000 in
set_option maxRecDepth 100000 in
theorem w_X7_isList_32 {l : Launch} {G : GL} {ad : Nat → Nat} {MM : Mem} {X : CT} (hX : Cx l { frames := 0, cells := 0, slots := 0, locals := 0 } cX7_isList RX7 5 (some .boolean) G ad X) : ∀ (n : Nat), ∀ (x1 : Int32) (x3 : Int32) (x4 : Int32) (M : Mem) {L : List (Option Value)}, lsub [some (.ref (ad 218)), some (.int x1), none, some (.int x3), some (.int x4)] L → KF l { frames := 0, cells := 0, slots := 0, locals := 0 } 5 G ad (EM G ad MM) (QP PostI G ad (EM G ad MM)) X (f_X7_isList_32 n x1 x3 x4 M) L 32 [] M := by
  intro n
  induction n with
  | zero =>
    intro x1 x3 x4 M L hL
    exact KF.none'
  | succ n ih =>
    intro x1 x3 x4 M L hL
    rw [f_X7_isList_32]
    refine KF.locals (lsub_le hL) ?_
    refine k_iload hX rfl dX7_isList_32 ?_
    refine k_aload_n hX (i := 0) rfl rfl dX7_isList_34 ?_
    refine k_get hX io_218 fl_X7_84 rfl dX7_isList_35 ?_
    refine k_icmp_ge (tgt := 81) hX dX7_isList_38 (by decide) (fun b1 => ?_) (fun b1 => ?_)
    · exact w_X7_isList_81 hX x3 M ⟨rfl, trivial⟩
    refine k_iload_n hX (i := 3) rfl rfl dX7_isList_41 ?_
    refine k_if_eq (tgt := 81) hX dX7_isList_42 (by decide) (fun b2 => ?_) (fun b2 => ?_)
    · exact w_X7_isList_81 hX x3 M ⟨rfl, trivial⟩
    refine k_aload_n hX (i := 0) rfl rfl dX7_isList_45 ?_
    refine k_get hX io_218 fl_X7_43 rfl dX7_isList_46 ?_
    refine k_aload_n hX (i := 0) rfl rfl dX7_isList_49 ?_
    refine k_get hX io_218 fl_X7_23 rfl dX7_isList_50 ?_
    refine k_iload_n hX (i := 1) rfl rfl dX7_isList_53 ?_
    refine k_ald hX ia_223 dX7_isList_54 (fun v3 => ?_)
    refine k_iload hX rfl dX7_isList_55 ?_
    refine k_iadd hX dX7_isList_57 ?_
    refine k_ald hX ia_229 dX7_isList_58 (fun v4 => ?_)
    refine k_aload_n hX (i := 0) rfl rfl dX7_isList_59 ?_
    refine k_get hX io_218 fl_X7_46 rfl dX7_isList_60 ?_
    refine k_iload hX rfl dX7_isList_63 ?_
    refine k_ald hX ia_230 dX7_isList_65 (fun v5 => ?_)
    refine k_icmp_ne (tgt := 73) hX dX7_isList_66 (by decide) (fun b6 => ?_) (fun b6 => ?_)
    · refine k_iconst (v := (nI 0)) hX rfl dX7_isList_73 ?_
      exact w_X7_isList_74 hX ih x1 x4 (nI 0) M ⟨rfl, rfl, rfl, trivial⟩
    refine k_iconst (v := (nI 1)) hX rfl dX7_isList_69 ?_
    refine k_goto (tgt := 74) hX dX7_isList_70 (by decide) ?_
    exact w_X7_isList_74 hX ih x1 x4 (nI 1) M ⟨rfl, rfl, rfl, trivial⟩
set_option maxHeartbeats 4000000 in
set_option maxRecDepth 100000 in
theorem w_X7_isList_28 {l : Launch} {G : GL} {ad : Nat → Nat} {MM : Mem} {X : CT} (hX : Cx l { frames := 0, cells := 0, slots := 0, locals := 0 } cX7_isList RX7 5 (some .boolean) G ad X) : ∀ (x1 : Int32) (s0 : Int32) (M : Mem) {L : List (Option Value)}, lsub [some (.ref (ad 218)), some (.int x1), none, none, none] L → KF l { frames := 0, cells := 0, slots := 0, locals := 0 } 5 G ad (EM G ad MM) (QP PostI G ad (EM G ad MM)) X (f_X7_isList_28 x1 s0 M) L 28 [.int s0] M := by
  intro x1 s0 M L hL
  unfold f_X7_isList_28
  refine KF.locals (lsub_le hL) ?_
  refine k_istore_n (L' := [some (.ref (ad 218)), some (.int x1), none, some (.int s0), none]) hX (i := 3) rfl (by decide) rfl dX7_isList_28 ?_
  refine k_iconst (v := (nI 0)) hX rfl dX7_isList_29 ?_
  refine k_istore (L' := [some (.ref (ad 218)), some (.int x1), none, some (.int s0), some (.int (nI 0))]) hX (by decide) rfl dX7_isList_30 ?_
  exact w_X7_isList_32 hX fuelN x1 s0 (nI 0) M ⟨rfl, rfl, rfl, rfl, trivial⟩
set_option maxHeartbeats 4000000 in
set_option maxRecDepth 100000 in
theorem w_X7_isList_27 {l : Launch} {G : GL} {ad : Nat → Nat} {MM : Mem} {X : CT} (hX : Cx l { frames := 0, cells := 0, slots := 0, locals := 0 } cX7_isList RX7 5 (some .boolean) G ad X) : ∀ (x1 : Int32) (M : Mem) {L : List (Option Value)}, lsub [some (.ref (ad 218)), some (.int x1), none, none, none] L → KF l { frames := 0, cells := 0, slots := 0, locals := 0 } 5 G ad (EM G ad MM) (QP PostI G ad (EM G ad MM)) X (f_X7_isList_27 x1 M) L 27 [] M := by
  intro x1 M L hL
  unfold f_X7_isList_27
  refine KF.locals (lsub_le hL) ?_
  refine k_iconst (v := (nI 0)) hX rfl dX7_isList_27 ?_
  exact w_X7_isList_28 hX x1 (nI 0) M ⟨rfl, rfl, trivial⟩
set_option maxHeartbeats 4000000 in
set_option maxRecDepth 100000 in
theorem w_X7_isList {l : Launch} {G : GL} {ad : Nat → Nat} {MM : Mem} {X : CT} (hX : Cx l { frames := 0, cells := 0, slots := 0, locals := 0 } cX7_isList RX7 5 (some .boolean) G ad X) {p1 : Int32} {p2 : Int32} {M : Mem} : KF l { frames := 0, cells := 0, slots := 0, locals := 0 } 5 G ad (EM G ad MM) (QP PostI G ad (EM G ad MM)) X (f_X7_isList p1 p2 M) [some (.ref (ad 218)), some (.int p1), some (.int p2), none, none] 0 [] M := by
  unfold f_X7_isList
  refine k_aload_n hX (i := 0) rfl rfl dX7_isList_0 ?_
  refine k_get hX io_218 fl_X7_20 rfl dX7_isList_1 ?_
  refine k_iload_n hX (i := 1) rfl rfl dX7_isList_4 ?_
  refine k_ald hX ia_222 dX7_isList_5 (fun v1 => ?_)
  refine k_iload_n hX (i := 2) rfl rfl dX7_isList_6 ?_
  refine k_icmp_ne (tgt := 27) hX dX7_isList_7 (by decide) (fun b2 => ?_) (fun b2 => ?_)
  · exact w_X7_isList_27 hX p1 M ⟨rfl, rfl, trivial⟩
  refine k_aload_n hX (i := 0) rfl rfl dX7_isList_10 ?_
  refine k_get hX io_218 fl_X7_26 rfl dX7_isList_11 ?_
  refine k_iload_n hX (i := 1) rfl rfl dX7_isList_14 ?_
  refine k_ald hX ia_224 dX7_isList_15 (fun v3 => ?_)
  refine k_aload_n hX (i := 0) rfl rfl dX7_isList_16 ?_
  refine k_get hX io_218 fl_X7_84 rfl dX7_isList_17 ?_
  refine k_icmp_ne (tgt := 27) hX dX7_isList_20 (by decide) (fun b4 => ?_) (fun b4 => ?_)
  · exact w_X7_isList_27 hX p1 M ⟨rfl, rfl, trivial⟩
  refine k_iconst (v := (nI 1)) hX rfl dX7_isList_23 ?_
  refine k_goto (tgt := 28) hX dX7_isList_24 (by decide) ?_
  exact w_X7_isList_28 hX p1 (nI 1) M ⟨rfl, rfl, trivial⟩
set_option maxRecDepth 100000 in
theorem m_X7_isList {l : Launch} {G : GL} {ad : Nat → Nat} {MM : Mem} (hAd : AdOK G ad) {p1 : Int32} {p2 : Int32} {M : Mem} {r : Rv} (h : f_X7_isList p1 p2 M = some r) : Ct PostI l G ad (EM G ad MM) yX7_isList cX7_isList 5 (some .boolean) 0 0 [.ref (ad 218), .int p1, .int p2] M r := ct_of' hAd (by decide +kernel) (List.forall_mem_cons.mpr ⟨rfl, (List.forall_mem_cons.mpr ⟨rfl, (List.forall_mem_cons.mpr ⟨rfl, (fun _ h => absurd h List.not_mem_nil)⟩)⟩)⟩) (Nat.le_of_ble_eq_true rfl) (L := [some (.ref (ad 218)), some (.int p1), some (.int p2), none, none]) rfl (fun _ hX => w_X7_isList hX) h
set_option maxHeartbeats 4000000 in
set_option maxRecDepth 100000 in
theorem w_X7_makeList_91 {l : Launch} {G : GL} {ad : Nat → Nat} {MM : Mem} {X : CT} (hX : Cx l { frames := 1, cells := 0, slots := 0, locals := 24 } cX7_makeList RX7 3 (some .int) G ad X) : ∀ (n : Nat), ∀ (x2 : Int32) (M : Mem) {L : List (Option Value)}, lsub [some (.ref (ad 218)), none, some (.int x2)] L → KF l { frames := 1, cells := 0, slots := 0, locals := 24 } 3 G ad (EM G ad MM) (QP PostI G ad (EM G ad MM)) X (f_X7_makeList_91 n x2 M) L 91 [] M := by
  intro n
  induction n with
  | zero =>
    intro x2 M L hL
    exact KF.none'
  | succ n ih =>
    intro x2 M L hL
    rw [f_X7_makeList_91]
    refine KF.locals (lsub_le hL) ?_
    refine k_iload_n hX (i := 2) rfl rfl dX7_makeList_91 ?_
    refine k_aload_n hX (i := 0) rfl rfl dX7_makeList_92 ?_
    refine k_get hX io_218 fl_X7_84 rfl dX7_makeList_93 ?_
    refine k_icmp_ge (tgt := 176) hX dX7_makeList_96 (by decide) (fun b1 => ?_) (fun b1 => ?_)
    · refine k_aload_n hX (i := 0) rfl rfl dX7_makeList_176 ?_
      refine k_dup hX rfl dX7_makeList_177 ?_
      refine k_get hX io_218 fl_X7_78 rfl dX7_makeList_178 ?_
      refine k_iconst (v := (nI 1)) hX rfl dX7_makeList_181 ?_
      refine k_iadd hX dX7_makeList_182 ?_
      refine k_puti hX locM io_218 fp_X7_78 (Nat.le_of_ble_eq_true rfl) rfl dX7_makeList_183 (fun M2 => ?_)
      refine k_aload_n hX (i := 0) rfl rfl dX7_makeList_186 ?_
      refine k_get hX io_218 fl_X7_78 rfl dX7_makeList_187 ?_
      refine k_iconst (v := (nI 1)) hX rfl dX7_makeList_190 ?_
      refine k_isub hX dX7_makeList_191 ?_
      exact k_iret hX dX7_makeList_192
    refine k_aload_n hX (i := 0) rfl rfl dX7_makeList_99 ?_
    refine k_get hX io_218 fl_X7_43 rfl dX7_makeList_100 ?_
    refine k_aload_n hX (i := 0) rfl rfl dX7_makeList_103 ?_
    refine k_get hX io_218 fl_X7_81 rfl dX7_makeList_104 ?_
    refine k_aload_n hX (i := 0) rfl rfl dX7_makeList_107 ?_
    refine k_get hX io_218 fl_X7_46 rfl dX7_makeList_108 ?_
    refine k_iload_n hX (i := 2) rfl rfl dX7_makeList_111 ?_
    refine k_ald hX ia_230 dX7_makeList_112 (fun v3 => ?_)
    refine k_ast hX locM ia_229 dX7_makeList_113 (fun M4 => ?_)
    refine k_aload_n hX (i := 0) rfl rfl dX7_makeList_114 ?_
    refine k_dup hX rfl dX7_makeList_115 ?_
    refine k_get hX io_218 fl_X7_81 rfl dX7_makeList_116 ?_
    refine k_iconst (v := (nI 1)) hX rfl dX7_makeList_119 ?_
    refine k_iadd hX dX7_makeList_120 ?_
    refine k_puti hX locM io_218 fp_X7_81 (Nat.le_of_ble_eq_true rfl) rfl dX7_makeList_121 (fun M5 => ?_)
    refine k_aload_n hX (i := 0) rfl rfl dX7_makeList_124 ?_
    refine k_get hX io_218 fl_X7_29 rfl dX7_makeList_125 ?_
    refine k_aload_n hX (i := 0) rfl rfl dX7_makeList_128 ?_
    refine k_get hX io_218 fl_X7_78 rfl dX7_makeList_129 ?_
    refine k_dup2 hX rfl rfl dX7_makeList_132 ?_
    refine k_ald hX ia_225 dX7_makeList_133 (fun v6 => ?_)
    refine k_aload_n hX (i := 0) rfl rfl dX7_makeList_134 ?_
    refine k_get hX io_218 fl_X7_29 rfl dX7_makeList_135 ?_
    refine k_aload_n hX (i := 0) rfl rfl dX7_makeList_138 ?_
    refine k_get hX io_218 fl_X7_46 rfl dX7_makeList_139 ?_
    refine k_iload_n hX (i := 2) rfl rfl dX7_makeList_142 ?_
    refine k_ald hX ia_230 dX7_makeList_143 (fun v7 => ?_)
    refine k_ald hX ia_225 dX7_makeList_144 (fun v8 => ?_)
    refine k_iadd hX dX7_makeList_145 ?_
    refine k_ast hX locM ia_225 dX7_makeList_146 (fun M9 => ?_)
    refine k_aload_n hX (i := 0) rfl rfl dX7_makeList_147 ?_
    refine k_get hX io_218 fl_X7_32 rfl dX7_makeList_148 ?_
    refine k_aload_n hX (i := 0) rfl rfl dX7_makeList_151 ?_
    refine k_get hX io_218 fl_X7_78 rfl dX7_makeList_152 ?_
    refine k_dup2 hX rfl rfl dX7_makeList_155 ?_
    refine k_ald hX ia_226 dX7_makeList_156 (fun v10 => ?_)
    refine k_aload_n hX (i := 0) rfl rfl dX7_makeList_157 ?_
    refine k_get hX io_218 fl_X7_32 rfl dX7_makeList_158 ?_
    refine k_aload_n hX (i := 0) rfl rfl dX7_makeList_161 ?_
    refine k_get hX io_218 fl_X7_46 rfl dX7_makeList_162 ?_
    refine k_iload_n hX (i := 2) rfl rfl dX7_makeList_165 ?_
    refine k_ald hX ia_230 dX7_makeList_166 (fun v11 => ?_)
    refine k_ald hX ia_226 dX7_makeList_167 (fun v12 => ?_)
    refine k_iadd hX dX7_makeList_168 ?_
    refine k_ast hX locM ia_226 dX7_makeList_169 (fun M13 => ?_)
    refine k_iinc (v := x2 + nI 1) (L' := [some (.ref (ad 218)), none, some (.int (x2 + nI 1))]) hX (i := 2) rfl rfl (by decide) rfl dX7_makeList_170 ?_
    refine k_goto (tgt := 91) hX dX7_makeList_173 (by decide) ?_
    exact ih (x2 + nI 1) M13 ⟨rfl, rfl, trivial⟩
set_option maxHeartbeats 4000000 in
set_option maxRecDepth 100000 in
theorem w_X7_makeList_3 {l : Launch} {G : GL} {ad : Nat → Nat} {MM : Mem} {X : CT} (hX : Cx l { frames := 1, cells := 0, slots := 0, locals := 24 } cX7_makeList RX7 3 (some .int) G ad X) : ∀ (n : Nat), ∀ (x1 : Int32) (x2 : Int32) (M : Mem) {L : List (Option Value)}, lsub [some (.ref (ad 218)), some (.int x1), some (.int x2)] L → KF l { frames := 1, cells := 0, slots := 0, locals := 24 } 3 G ad (EM G ad MM) (QP PostI G ad (EM G ad MM)) X (f_X7_makeList_3 n x1 x2 M) L 3 [] M := by
  intro n
  induction n with
  | zero =>
    intro x1 x2 M L hL
    exact KF.none'
  | succ n ih =>
    intro x1 x2 M L hL
    rw [f_X7_makeList_3]
    refine KF.locals (lsub_le hL) ?_
    refine k_iload_n hX (i := 2) rfl rfl dX7_makeList_3 ?_
    refine k_aload_n hX (i := 0) rfl rfl dX7_makeList_4 ?_
    refine k_get hX io_218 fl_X7_78 rfl dX7_makeList_5 ?_
    refine k_icmp_ge (tgt := 28) hX dX7_makeList_8 (by decide) (fun b1 => ?_) (fun b1 => ?_)
    · refine k_aload_n hX (i := 0) rfl rfl dX7_makeList_28 ?_
      refine k_get hX io_218 fl_X7_20 rfl dX7_makeList_29 ?_
      refine k_aload_n hX (i := 0) rfl rfl dX7_makeList_32 ?_
      refine k_get hX io_218 fl_X7_78 rfl dX7_makeList_33 ?_
      refine k_iload_n hX (i := 1) rfl rfl dX7_makeList_36 ?_
      refine k_ast hX locM ia_222 dX7_makeList_37 (fun M2 => ?_)
      refine k_aload_n hX (i := 0) rfl rfl dX7_makeList_38 ?_
      refine k_get hX io_218 fl_X7_23 rfl dX7_makeList_39 ?_
      refine k_aload_n hX (i := 0) rfl rfl dX7_makeList_42 ?_
      refine k_get hX io_218 fl_X7_78 rfl dX7_makeList_43 ?_
      refine k_aload_n hX (i := 0) rfl rfl dX7_makeList_46 ?_
      refine k_get hX io_218 fl_X7_81 rfl dX7_makeList_47 ?_
      refine k_ast hX locM ia_223 dX7_makeList_50 (fun M3 => ?_)
      refine k_aload_n hX (i := 0) rfl rfl dX7_makeList_51 ?_
      refine k_get hX io_218 fl_X7_26 rfl dX7_makeList_52 ?_
      refine k_aload_n hX (i := 0) rfl rfl dX7_makeList_55 ?_
      refine k_get hX io_218 fl_X7_78 rfl dX7_makeList_56 ?_
      refine k_aload_n hX (i := 0) rfl rfl dX7_makeList_59 ?_
      refine k_get hX io_218 fl_X7_84 rfl dX7_makeList_60 ?_
      refine k_ast hX locM ia_224 dX7_makeList_63 (fun M4 => ?_)
      refine k_aload_n hX (i := 0) rfl rfl dX7_makeList_64 ?_
      refine k_get hX io_218 fl_X7_29 rfl dX7_makeList_65 ?_
      refine k_aload_n hX (i := 0) rfl rfl dX7_makeList_68 ?_
      refine k_get hX io_218 fl_X7_78 rfl dX7_makeList_69 ?_
      refine k_iconst (v := (nI 1)) hX rfl dX7_makeList_72 ?_
      refine k_ast hX locM ia_225 dX7_makeList_73 (fun M5 => ?_)
      refine k_aload_n hX (i := 0) rfl rfl dX7_makeList_74 ?_
      refine k_get hX io_218 fl_X7_32 rfl dX7_makeList_75 ?_
      refine k_aload_n hX (i := 0) rfl rfl dX7_makeList_78 ?_
      refine k_get hX io_218 fl_X7_78 rfl dX7_makeList_79 ?_
      refine k_iconst (v := (nI 1)) hX rfl dX7_makeList_82 ?_
      refine k_aload_n hX (i := 0) rfl rfl dX7_makeList_83 ?_
      refine k_get hX io_218 fl_X7_84 rfl dX7_makeList_84 ?_
      refine k_iadd hX dX7_makeList_87 ?_
      refine k_ast hX locM ia_226 dX7_makeList_88 (fun M6 => ?_)
      refine k_iconst (v := (nI 0)) hX rfl dX7_makeList_89 ?_
      refine k_istore_n (L' := [some (.ref (ad 218)), some (.int x1), some (.int (nI 0))]) hX (i := 2) rfl (by decide) rfl dX7_makeList_90 ?_
      exact w_X7_makeList_91 hX fuelN (nI 0) M6 ⟨rfl, rfl, trivial⟩
    refine k_aload_n hX (i := 0) rfl rfl dX7_makeList_11 ?_
    refine k_iload_n hX (i := 2) rfl rfl dX7_makeList_12 ?_
    refine k_iload_n hX (i := 1) rfl rfl dX7_makeList_13 ?_
    refine k_callVI (vs := [.int x2, .int x1]) hX (fun _ h9 => m_X7_isList hX.2.2.2.2.2.2.1  h9) io_218 rfl ml_X7_87 ⟨Nat.le_of_ble_eq_true rfl, Nat.le_of_ble_eq_true rfl⟩ rfl rfl (Nat.le_of_ble_eq_true rfl) dX7_makeList_14 (fun q7 => ?_)
    refine k_if_eq (tgt := 22) hX dX7_makeList_17 (by decide) (fun b8 => ?_) (fun b8 => ?_)
    · refine k_iinc (v := x2 + nI 1) (L' := [some (.ref (ad 218)), some (.int x1), some (.int (x2 + nI 1))]) hX (i := 2) rfl rfl (by decide) rfl dX7_makeList_22 ?_
      refine k_goto (tgt := 3) hX dX7_makeList_25 (by decide) ?_
      exact ih x1 (x2 + nI 1) q7.2 ⟨rfl, rfl, rfl, trivial⟩
    refine k_iload_n hX (i := 2) rfl rfl dX7_makeList_20 ?_
    exact k_iret hX dX7_makeList_21
set_option maxHeartbeats 4000000 in
set_option maxRecDepth 100000 in
theorem w_X7_makeList {l : Launch} {G : GL} {ad : Nat → Nat} {MM : Mem} {X : CT} (hX : Cx l { frames := 1, cells := 0, slots := 0, locals := 24 } cX7_makeList RX7 3 (some .int) G ad X) {p1 : Int32} {M : Mem} : KF l { frames := 1, cells := 0, slots := 0, locals := 24 } 3 G ad (EM G ad MM) (QP PostI G ad (EM G ad MM)) X (f_X7_makeList p1 M) [some (.ref (ad 218)), some (.int p1), none] 0 [] M := by
  unfold f_X7_makeList
  refine k_bipush (v := (nI 16)) hX rfl dX7_makeList_0 ?_
  refine k_istore_n (L' := [some (.ref (ad 218)), some (.int p1), some (.int (nI 16))]) hX (i := 2) rfl (by decide) rfl dX7_makeList_2 ?_
  exact w_X7_makeList_3 hX fuelN p1 (nI 16) M ⟨rfl, rfl, rfl, trivial⟩
set_option maxRecDepth 100000 in
theorem m_X7_makeList {l : Launch} {G : GL} {ad : Nat → Nat} {MM : Mem} (hAd : AdOK G ad) {p1 : Int32} {M : Mem} {r : Rv} (h : f_X7_makeList p1 M = some r) : Ct PostI l G ad (EM G ad MM) yX7_makeList cX7_makeList 3 (some .int) 1 24 [.ref (ad 218), .int p1] M r := ct_of' hAd (by decide +kernel) (List.forall_mem_cons.mpr ⟨rfl, (List.forall_mem_cons.mpr ⟨rfl, (fun _ h => absurd h List.not_mem_nil)⟩)⟩) (Nat.le_of_ble_eq_true rfl) (L := [some (.ref (ad 218)), some (.int p1), none]) rfl (fun _ hX => w_X7_makeList hX) h
