set_option maxHeartbeats 4000000 in
set_option maxRecDepth 100000 in
theorem w_X7_read_40 {l : Launch} {G : GL} {ad : Nat → Nat} {MM : Mem} {X : CT} (hX : Cx l { frames := 11, cells := 0, slots := 0, locals := 248 } cX7_read RX7 2 (some .int) G ad X) : ∀ (n : Nat), ∀ (M : Mem) {L : List (Option Value)}, lsub [some (.ref (ad 218)), none] L → KF l { frames := 11, cells := 0, slots := 0, locals := 248 } 2 G ad (EM G ad MM) (QP PostI G ad (EM G ad MM)) X (f_X7_read_40 n M) L 40 [] M := by
  intro n
  induction n with
  | zero =>
    intro M L hL
    exact KF.none'
  | succ n ih =>
    intro M L hL
    rw [f_X7_read_40]
    refine KF.locals (lsub_le hL) ?_
    refine k_aload_n hX (i := 0) rfl rfl dX7_read_40 ?_
    refine k_get hX io_218 fl_X7_214 rfl dX7_read_41 ?_
    refine k_if_le (tgt := 54) hX dX7_read_44 (by decide) (fun b1 => ?_) (fun b1 => ?_)
    · refine k_aload_n hX (i := 0) rfl rfl dX7_read_54 ?_
      refine k_get hX io_218 fl_X7_49 rfl dX7_read_55 ?_
      refine k_iconst (v := (nI 0)) hX rfl dX7_read_58 ?_
      refine k_ald hX ia_231 dX7_read_59 (fun v2 => ?_)
      exact k_iret hX dX7_read_60
    refine k_aload_n hX (i := 0) rfl rfl dX7_read_47 ?_
    refine k_callVV (vs := []) hX (fun _ h9 => m_X7_apply hX.2.2.2.2.2.2.1  h9) io_218 rfl ml_X7_223 ⟨Nat.le_of_ble_eq_true rfl, Nat.le_of_ble_eq_true rfl⟩ rfl rfl (Nat.le_of_ble_eq_true rfl) dX7_read_48 (fun q3 => ?_)
    refine k_goto (tgt := 40) hX dX7_read_51 (by decide) ?_
    exact ih q3.2 ⟨rfl, trivial⟩
set_option maxHeartbeats 4000000 in
set_option maxRecDepth 100000 in
theorem w_X7_read_16 {l : Launch} {G : GL} {ad : Nat → Nat} {MM : Mem} {X : CT} (hX : Cx l { frames := 11, cells := 0, slots := 0, locals := 248 } cX7_read RX7 2 (some .int) G ad X) : ∀ (n : Nat), ∀ (x1 : Int32) (M : Mem) {L : List (Option Value)}, lsub [some (.ref (ad 218)), some (.int x1)] L → KF l { frames := 11, cells := 0, slots := 0, locals := 248 } 2 G ad (EM G ad MM) (QP PostI G ad (EM G ad MM)) X (f_X7_read_16 n x1 M) L 16 [] M := by
  intro n
  induction n with
  | zero =>
    intro x1 M L hL
    exact KF.none'
  | succ n ih =>
    intro x1 M L hL
    rw [f_X7_read_16]
    refine KF.locals (lsub_le hL) ?_
    refine k_iload_n hX (i := 1) rfl rfl dX7_read_16 ?_
    refine k_aload_n hX (i := 0) rfl rfl dX7_read_17 ?_
    refine k_get hX io_218 fl_X7_200 rfl dX7_read_18 ?_
    refine k_icmp_ge (tgt := 40) hX dX7_read_21 (by decide) (fun b1 => ?_) (fun b1 => ?_)
    · exact w_X7_read_40 hX fuelN M ⟨rfl, trivial⟩
    refine k_aload_n hX (i := 0) rfl rfl dX7_read_24 ?_
    refine k_aload_n hX (i := 0) rfl rfl dX7_read_25 ?_
    refine k_get hX io_218 fl_X7_59 rfl dX7_read_26 ?_
    refine k_iload_n hX (i := 1) rfl rfl dX7_read_29 ?_
    refine k_cald hX ia_234 dX7_read_30 (fun v2 => ?_)
    refine k_callVV (vs := [.int v2]) hX (fun _ h9 => m_X7_readOne hX.2.2.2.2.2.2.1  h9) io_218 rfl ml_X7_229 ⟨Nat.le_of_ble_eq_true rfl, Nat.le_of_ble_eq_true rfl⟩ rfl rfl (Nat.le_of_ble_eq_true rfl) dX7_read_31 (fun q3 => ?_)
    refine k_iinc (v := x1 + nI 1) (L' := [some (.ref (ad 218)), some (.int (x1 + nI 1))]) hX (i := 1) rfl rfl (by decide) rfl dX7_read_34 ?_
    refine k_goto (tgt := 16) hX dX7_read_37 (by decide) ?_
    exact ih (x1 + nI 1) q3.2 ⟨rfl, rfl, trivial⟩
set_option maxHeartbeats 4000000 in
set_option maxRecDepth 100000 in
theorem w_X7_read {l : Launch} {G : GL} {ad : Nat → Nat} {MM : Mem} {X : CT} (hX : Cx l { frames := 11, cells := 0, slots := 0, locals := 248 } cX7_read RX7 2 (some .int) G ad X) {M : Mem} : KF l { frames := 11, cells := 0, slots := 0, locals := 248 } 2 G ad (EM G ad MM) (QP PostI G ad (EM G ad MM)) X (f_X7_read M) [some (.ref (ad 218)), none] 0 [] M := by
  unfold f_X7_read
  refine k_aload_n hX (i := 0) rfl rfl dX7_read_0 ?_
  refine k_callVV (vs := []) hX (fun _ h9 => m_X7_empty hX.2.2.2.2.2.2.1  h9) io_218 rfl ml_X7_62 ⟨Nat.le_of_ble_eq_true rfl, Nat.le_of_ble_eq_true rfl⟩ rfl rfl (Nat.le_of_ble_eq_true rfl) dX7_read_1 (fun q1 => ?_)
  refine k_aload_n hX (i := 0) rfl rfl dX7_read_4 ?_
  refine k_iconst (v := (nI 0)) hX rfl dX7_read_5 ?_
  refine k_puti hX locM io_218 fp_X7_217 (Nat.le_of_ble_eq_true rfl) rfl dX7_read_6 (fun M2 => ?_)
  refine k_aload_n hX (i := 0) rfl rfl dX7_read_9 ?_
  refine k_iconst (v := (nI 0)) hX rfl dX7_read_10 ?_
  refine k_puti hX locM io_218 fp_X7_214 (Nat.le_of_ble_eq_true rfl) rfl dX7_read_11 (fun M3 => ?_)
  refine k_iconst (v := (nI 0)) hX rfl dX7_read_14 ?_
  refine k_istore_n (L' := [some (.ref (ad 218)), some (.int (nI 0))]) hX (i := 1) rfl (by decide) rfl dX7_read_15 ?_
  exact w_X7_read_16 hX fuelN (nI 0) M3 ⟨rfl, rfl, trivial⟩
set_option maxRecDepth 100000 in
theorem m_X7_read {l : Launch} {G : GL} {ad : Nat → Nat} {MM : Mem} (hAd : AdOK G ad) {M : Mem} {r : Rv} (h : f_X7_read M = some r) : Ct PostI l G ad (EM G ad MM) yX7_read cX7_read 2 (some .int) 11 248 [.ref (ad 218)] M r := ct_of' hAd (by decide +kernel) (List.forall_mem_cons.mpr ⟨rfl, (fun _ h => absurd h List.not_mem_nil)⟩) (Nat.le_of_ble_eq_true rfl) (L := [some (.ref (ad 218)), none]) rfl (fun _ hX => w_X7_read hX) h
set_option maxHeartbeats 4000000 in
set_option maxRecDepth 100000 in
theorem w_X7_partMany_26 {l : Launch} {G : GL} {ad : Nat → Nat} {MM : Mem} {X : CT} (hX : Cx l { frames := 0, cells := 0, slots := 0, locals := 0 } cX7_partMany RX7 2 (some .int) G ad X) : ∀ (s0 : Int32) (M : Mem) {L : List (Option Value)}, lsub [none, none] L → KF l { frames := 0, cells := 0, slots := 0, locals := 0 } 2 G ad (EM G ad MM) (QP PostI G ad (EM G ad MM)) X (f_X7_partMany_26 s0 M) L 26 [.int s0] M := by
  intro s0 M L hL
  unfold f_X7_partMany_26
  refine KF.locals (lsub_le hL) ?_
  exact k_iret hX dX7_partMany_26
set_option maxHeartbeats 4000000 in
set_option maxRecDepth 100000 in
theorem w_X7_partMany_25 {l : Launch} {G : GL} {ad : Nat → Nat} {MM : Mem} {X : CT} (hX : Cx l { frames := 0, cells := 0, slots := 0, locals := 0 } cX7_partMany RX7 2 (some .int) G ad X) : ∀ (M : Mem) {L : List (Option Value)}, lsub [none, none] L → KF l { frames := 0, cells := 0, slots := 0, locals := 0 } 2 G ad (EM G ad MM) (QP PostI G ad (EM G ad MM)) X (f_X7_partMany_25 M) L 25 [] M := by
  intro M L hL
  unfold f_X7_partMany_25
  refine KF.locals (lsub_le hL) ?_
  refine k_iconst (v := (nI 1)) hX rfl dX7_partMany_25 ?_
  exact w_X7_partMany_26 hX (nI 1) M trivial
set_option maxHeartbeats 4000000 in
set_option maxRecDepth 100000 in
theorem w_X7_partMany {l : Launch} {G : GL} {ad : Nat → Nat} {MM : Mem} {X : CT} (hX : Cx l { frames := 0, cells := 0, slots := 0, locals := 0 } cX7_partMany RX7 2 (some .int) G ad X) {p1 : Int32} {M : Mem} : KF l { frames := 0, cells := 0, slots := 0, locals := 0 } 2 G ad (EM G ad MM) (QP PostI G ad (EM G ad MM)) X (f_X7_partMany p1 M) [some (.ref (ad 218)), some (.int p1)] 0 [] M := by
  unfold f_X7_partMany
  refine k_iload_n hX (i := 1) rfl rfl dX7_partMany_0 ?_
  refine k_bipush (v := (nI 16)) hX rfl dX7_partMany_1 ?_
  refine k_icmp_lt (tgt := 25) hX dX7_partMany_3 (by decide) (fun b1 => ?_) (fun b1 => ?_)
  · exact w_X7_partMany_25 hX M trivial
  refine k_aload_n hX (i := 0) rfl rfl dX7_partMany_6 ?_
  refine k_get hX io_218 fl_X7_20 rfl dX7_partMany_7 ?_
  refine k_iload_n hX (i := 1) rfl rfl dX7_partMany_10 ?_
  refine k_ald hX ia_222 dX7_partMany_11 (fun v2 => ?_)
  refine k_iconst (v := (nI 5)) hX rfl dX7_partMany_12 ?_
  refine k_icmp_ne (tgt := 25) hX dX7_partMany_13 (by decide) (fun b3 => ?_) (fun b3 => ?_)
  · exact w_X7_partMany_25 hX M trivial
  refine k_aload_n hX (i := 0) rfl rfl dX7_partMany_16 ?_
  refine k_get hX io_218 fl_X7_26 rfl dX7_partMany_17 ?_
  refine k_iload_n hX (i := 1) rfl rfl dX7_partMany_20 ?_
  refine k_ald hX ia_224 dX7_partMany_21 (fun v4 => ?_)
  refine k_goto (tgt := 26) hX dX7_partMany_22 (by decide) ?_
  exact w_X7_partMany_26 hX v4 M trivial
set_option maxRecDepth 100000 in
theorem m_X7_partMany {l : Launch} {G : GL} {ad : Nat → Nat} {MM : Mem} (hAd : AdOK G ad) {p1 : Int32} {M : Mem} {r : Rv} (h : f_X7_partMany p1 M = some r) : Ct PostI l G ad (EM G ad MM) yX7_partMany cX7_partMany 2 (some .int) 0 0 [.ref (ad 218), .int p1] M r := ct_of' hAd (by decide +kernel) (List.forall_mem_cons.mpr ⟨rfl, (List.forall_mem_cons.mpr ⟨rfl, (fun _ h => absurd h List.not_mem_nil)⟩)⟩) (Nat.le_of_ble_eq_true rfl) (L := [some (.ref (ad 218)), some (.int p1)]) rfl (fun _ hX => w_X7_partMany hX) h
set_option maxHeartbeats 4000000 in
set_option maxRecDepth 100000 in
theorem w_X7_partForm_33 {l : Launch} {G : GL} {ad : Nat → Nat} {MM : Mem} {X : CT} (hX : Cx l { frames := 0, cells := 0, slots := 0, locals := 0 } cX7_partForm RX7 3 (some .int) G ad X) : ∀ (s0 : Int32) (M : Mem) {L : List (Option Value)}, lsub [none, none, none] L → KF l { frames := 0, cells := 0, slots := 0, locals := 0 } 3 G ad (EM G ad MM) (QP PostI G ad (EM G ad MM)) X (f_X7_partForm_33 s0 M) L 33 [.int s0] M := by
  intro s0 M L hL
  unfold f_X7_partForm_33
  refine KF.locals (lsub_le hL) ?_
  exact k_iret hX dX7_partForm_33
set_option maxHeartbeats 4000000 in
set_option maxRecDepth 100000 in
theorem w_X7_partForm_32 {l : Launch} {G : GL} {ad : Nat → Nat} {MM : Mem} {X : CT} (hX : Cx l { frames := 0, cells := 0, slots := 0, locals := 0 } cX7_partForm RX7 3 (some .int) G ad X) : ∀ (x1 : Int32) (M : Mem) {L : List (Option Value)}, lsub [none, some (.int x1), none] L → KF l { frames := 0, cells := 0, slots := 0, locals := 0 } 3 G ad (EM G ad MM) (QP PostI G ad (EM G ad MM)) X (f_X7_partForm_32 x1 M) L 32 [] M := by
  intro x1 M L hL
  unfold f_X7_partForm_32
  refine KF.locals (lsub_le hL) ?_
  refine k_iload_n hX (i := 1) rfl rfl dX7_partForm_32 ?_
  exact w_X7_partForm_33 hX x1 M trivial
set_option maxHeartbeats 4000000 in
set_option maxRecDepth 100000 in
theorem w_X7_partForm {l : Launch} {G : GL} {ad : Nat → Nat} {MM : Mem} {X : CT} (hX : Cx l { frames := 0, cells := 0, slots := 0, locals := 0 } cX7_partForm RX7 3 (some .int) G ad X) {p1 : Int32} {p2 : Int32} {M : Mem} : KF l { frames := 0, cells := 0, slots := 0, locals := 0 } 3 G ad (EM G ad MM) (QP PostI G ad (EM G ad MM)) X (f_X7_partForm p1 p2 M) [some (.ref (ad 218)), some (.int p1), some (.int p2)] 0 [] M := by
  unfold f_X7_partForm
  refine k_iload_n hX (i := 1) rfl rfl dX7_partForm_0 ?_
  refine k_bipush (v := (nI 16)) hX rfl dX7_partForm_1 ?_
  refine k_icmp_lt (tgt := 32) hX dX7_partForm_3 (by decide) (fun b1 => ?_) (fun b1 => ?_)
  · exact w_X7_partForm_32 hX p1 M ⟨rfl, trivial⟩
  refine k_aload_n hX (i := 0) rfl rfl dX7_partForm_6 ?_
  refine k_get hX io_218 fl_X7_20 rfl dX7_partForm_7 ?_
  refine k_iload_n hX (i := 1) rfl rfl dX7_partForm_10 ?_
  refine k_ald hX ia_222 dX7_partForm_11 (fun v2 => ?_)
  refine k_iconst (v := (nI 5)) hX rfl dX7_partForm_12 ?_
  refine k_icmp_ne (tgt := 32) hX dX7_partForm_13 (by decide) (fun b3 => ?_) (fun b3 => ?_)
  · exact w_X7_partForm_32 hX p1 M ⟨rfl, trivial⟩
  refine k_aload_n hX (i := 0) rfl rfl dX7_partForm_16 ?_
  refine k_get hX io_218 fl_X7_43 rfl dX7_partForm_17 ?_
  refine k_aload_n hX (i := 0) rfl rfl dX7_partForm_20 ?_
  refine k_get hX io_218 fl_X7_23 rfl dX7_partForm_21 ?_
  refine k_iload_n hX (i := 1) rfl rfl dX7_partForm_24 ?_
  refine k_ald hX ia_223 dX7_partForm_25 (fun v4 => ?_)
  refine k_iload_n hX (i := 2) rfl rfl dX7_partForm_26 ?_
  refine k_iadd hX dX7_partForm_27 ?_
  refine k_ald hX ia_229 dX7_partForm_28 (fun v5 => ?_)
  refine k_goto (tgt := 33) hX dX7_partForm_29 (by decide) ?_
  exact w_X7_partForm_33 hX v5 M trivial
set_option maxRecDepth 100000 in
theorem m_X7_partForm {l : Launch} {G : GL} {ad : Nat → Nat} {MM : Mem} (hAd : AdOK G ad) {p1 : Int32} {p2 : Int32} {M : Mem} {r : Rv} (h : f_X7_partForm p1 p2 M = some r) : Ct PostI l G ad (EM G ad MM) yX7_partForm cX7_partForm 3 (some .int) 0 0 [.ref (ad 218), .int p1, .int p2] M r := ct_of' hAd (by decide +kernel) (List.forall_mem_cons.mpr ⟨rfl, (List.forall_mem_cons.mpr ⟨rfl, (List.forall_mem_cons.mpr ⟨rfl, (fun _ h => absurd h List.not_mem_nil)⟩)⟩)⟩) (Nat.le_of_ble_eq_true rfl) (L := [some (.ref (ad 218)), some (.int p1), some (.int p2)]) rfl (fun _ hX => w_X7_partForm hX) h
set_option maxHeartbeats 4000000 in
set_option maxRecDepth 100000 in
theorem w_X7_comes_70 {l : Launch} {G : GL} {ad : Nat → Nat} {MM : Mem} {X : CT} (hX : Cx l { frames := 4, cells := 0, slots := 0, locals := 90 } cX7_comes RX7 5 (some .int) G ad X) : ∀ (n : Nat), ∀ (x1 : Int32) (x2 : Int32) (x3 : Int32) (x4 : Int32) (M : Mem) {L : List (Option Value)}, lsub [some (.ref (ad 218)), some (.int x1), some (.int x2), some (.int x3), some (.int x4)] L → KF l { frames := 4, cells := 0, slots := 0, locals := 90 } 5 G ad (EM G ad MM) (QP PostI G ad (EM G ad MM)) X (f_X7_comes_70 n x1 x2 x3 x4 M) L 70 [] M := by
  intro n
  induction n with
  | zero =>
    intro x1 x2 x3 x4 M L hL
    exact KF.none'
  | succ n ih =>
    intro x1 x2 x3 x4 M L hL
    rw [f_X7_comes_70]
    refine KF.locals (lsub_le hL) ?_
    refine k_iload hX rfl dX7_comes_70 ?_
    refine k_aload_n hX (i := 0) rfl rfl dX7_comes_72 ?_
    refine k_get hX io_218 fl_X7_7 rfl dX7_comes_73 ?_
    refine k_iload_n hX (i := 3) rfl rfl dX7_comes_76 ?_
    refine k_iconst (v := (nI 5)) hX rfl dX7_comes_77 ?_
    refine k_iadd hX dX7_comes_78 ?_
    refine k_ald hX ia_219 dX7_comes_79 (fun v1 => ?_)
    refine k_icmp_ge (tgt := 103) hX dX7_comes_80 (by decide) (fun b2 => ?_) (fun b2 => ?_)
    · refine k_aload_n hX (i := 0) rfl rfl dX7_comes_103 ?_
      refine k_get hX io_218 fl_X7_7 rfl dX7_comes_104 ?_
      refine k_iload_n hX (i := 3) rfl rfl dX7_comes_107 ?_
      refine k_iconst (v := (nI 1)) hX rfl dX7_comes_108 ?_
      refine k_iadd hX dX7_comes_109 ?_
      refine k_aload_n hX (i := 0) rfl rfl dX7_comes_110 ?_
      refine k_iload_n hX (i := 2) rfl rfl dX7_comes_111 ?_
      refine k_callVI (vs := [.int x2]) hX (fun _ h9 => m_X7_verdictBy hX.2.2.2.2.2.2.1  h9) io_218 rfl ml_X7_185 ⟨Nat.le_of_ble_eq_true rfl, Nat.le_of_ble_eq_true rfl⟩ rfl rfl (Nat.le_of_ble_eq_true rfl) dX7_comes_112 (fun q3 => ?_)
      refine k_ast hX locM ia_219 dX7_comes_115 (fun M4 => ?_)
      refine k_aload_n hX (i := 0) rfl rfl dX7_comes_116 ?_
      refine k_get hX io_218 fl_X7_7 rfl dX7_comes_117 ?_
      refine k_iconst (v := (nI 2)) hX rfl dX7_comes_120 ?_
      refine k_dup2 hX rfl rfl dX7_comes_121 ?_
      refine k_ald hX ia_219 dX7_comes_122 (fun v5 => ?_)
      refine k_iconst (v := (nI 1)) hX rfl dX7_comes_123 ?_
      refine k_iadd hX dX7_comes_124 ?_
      refine k_ast hX locM ia_219 dX7_comes_125 (fun M6 => ?_)
      refine k_iload_n hX (i := 2) rfl rfl dX7_comes_126 ?_
      exact k_iret hX dX7_comes_127
    refine k_aload_n hX (i := 0) rfl rfl dX7_comes_83 ?_
    refine k_iload_n hX (i := 2) rfl rfl dX7_comes_84 ?_
    refine k_iload hX rfl dX7_comes_85 ?_
    refine k_aload_n hX (i := 0) rfl rfl dX7_comes_87 ?_
    refine k_iload_n hX (i := 1) rfl rfl dX7_comes_88 ?_
    refine k_iload hX rfl dX7_comes_89 ?_
    refine k_callVI (vs := [.int x1, .int x4]) hX (fun _ h9 => m_X7_partForm hX.2.2.2.2.2.2.1  h9) io_218 rfl ml_X7_236 ⟨Nat.le_of_ble_eq_true rfl, Nat.le_of_ble_eq_true rfl⟩ rfl rfl (Nat.le_of_ble_eq_true rfl) dX7_comes_91 (fun q7 => ?_)
    refine k_callVV (vs := [.int x2, .int x4, .int q7.1]) hX (fun _ h9 => m_X7_store hX.2.2.2.2.2.2.1  h9) io_218 rfl ml_X7_181 ⟨Nat.le_of_ble_eq_true rfl, Nat.le_of_ble_eq_true rfl⟩ rfl rfl (Nat.le_of_ble_eq_true rfl) dX7_comes_94 (fun q8 => ?_)
    refine k_iinc (v := x4 + nI 1) (L' := [some (.ref (ad 218)), some (.int x1), some (.int x2), some (.int x3), some (.int (x4 + nI 1))]) hX (i := 4) rfl rfl (by decide) rfl dX7_comes_97 ?_
    refine k_goto (tgt := 70) hX dX7_comes_100 (by decide) ?_
    exact ih x1 x2 x3 (x4 + nI 1) q8.2 ⟨rfl, rfl, rfl, rfl, rfl, trivial⟩
set_option maxHeartbeats 4000000 in
set_option maxRecDepth 100000 in
theorem w_X7_comes {l : Launch} {G : GL} {ad : Nat → Nat} {MM : Mem} {X : CT} (hX : Cx l { frames := 4, cells := 0, slots := 0, locals := 90 } cX7_comes RX7 5 (some .int) G ad X) {p1 : Int32} {M : Mem} : KF l { frames := 4, cells := 0, slots := 0, locals := 90 } 5 G ad (EM G ad MM) (QP PostI G ad (EM G ad MM)) X (f_X7_comes p1 M) [some (.ref (ad 218)), some (.int p1), none, none, none] 0 [] M := by
  unfold f_X7_comes
  refine k_aload_n hX (i := 0) rfl rfl dX7_comes_0 ?_
  refine k_get hX io_218 fl_X7_7 rfl dX7_comes_1 ?_
  refine k_iconst (v := (nI 2)) hX rfl dX7_comes_4 ?_
  refine k_ald hX ia_219 dX7_comes_5 (fun v1 => ?_)
  refine k_istore_n (L' := [some (.ref (ad 218)), some (.int p1), some (.int v1), none, none]) hX (i := 2) rfl (by decide) rfl dX7_comes_6 ?_
  refine k_iload_n hX (i := 2) rfl rfl dX7_comes_7 ?_
  refine k_callSI (vs := [.int v1]) hX (fun _ h9 => m_X7_w hX.2.2.2.2.2.2.1  h9) ml_X7_74 ⟨Nat.le_of_ble_eq_true rfl, Nat.le_of_ble_eq_true rfl⟩ rfl rfl (Nat.le_of_ble_eq_true rfl) dX7_comes_8 (fun q2 => ?_)
  refine k_istore_n (L' := [some (.ref (ad 218)), some (.int p1), some (.int v1), some (.int q2.1), none]) hX (i := 3) rfl (by decide) rfl dX7_comes_11 ?_
  refine k_aload_n hX (i := 0) rfl rfl dX7_comes_12 ?_
  refine k_get hX io_218 fl_X7_7 rfl dX7_comes_13 ?_
  refine k_iload_n hX (i := 3) rfl rfl dX7_comes_16 ?_
  refine k_iconst (v := (nI 0)) hX rfl dX7_comes_17 ?_
  refine k_iadd hX dX7_comes_18 ?_
  refine k_iconst (v := (nI 1)) hX rfl dX7_comes_19 ?_
  refine k_ast hX locM ia_219 dX7_comes_20 (fun M3 => ?_)
  refine k_aload_n hX (i := 0) rfl rfl dX7_comes_21 ?_
  refine k_get hX io_218 fl_X7_7 rfl dX7_comes_22 ?_
  refine k_iload_n hX (i := 3) rfl rfl dX7_comes_25 ?_
  refine k_iconst (v := (nI 2)) hX rfl dX7_comes_26 ?_
  refine k_iadd hX dX7_comes_27 ?_
  refine k_bipush (v := (-5)) hX rfl dX7_comes_28 ?_
  refine k_ast hX locM ia_219 dX7_comes_30 (fun M4 => ?_)
  refine k_aload_n hX (i := 0) rfl rfl dX7_comes_31 ?_
  refine k_get hX io_218 fl_X7_7 rfl dX7_comes_32 ?_
  refine k_iload_n hX (i := 3) rfl rfl dX7_comes_35 ?_
  refine k_iconst (v := (nI 3)) hX rfl dX7_comes_36 ?_
  refine k_iadd hX dX7_comes_37 ?_
  refine k_iconst (v := (nI 0)) hX rfl dX7_comes_38 ?_
  refine k_ast hX locM ia_219 dX7_comes_39 (fun M5 => ?_)
  refine k_aload_n hX (i := 0) rfl rfl dX7_comes_40 ?_
  refine k_get hX io_218 fl_X7_7 rfl dX7_comes_41 ?_
  refine k_iload_n hX (i := 3) rfl rfl dX7_comes_44 ?_
  refine k_iconst (v := (nI 4)) hX rfl dX7_comes_45 ?_
  refine k_iadd hX dX7_comes_46 ?_
  refine k_aload_n hX (i := 0) rfl rfl dX7_comes_47 ?_
  refine k_get hX io_218 fl_X7_7 rfl dX7_comes_48 ?_
  refine k_iconst (v := (nI 0)) hX rfl dX7_comes_51 ?_
  refine k_ald hX ia_219 dX7_comes_52 (fun v6 => ?_)
  refine k_ast hX locM ia_219 dX7_comes_53 (fun M7 => ?_)
  refine k_aload_n hX (i := 0) rfl rfl dX7_comes_54 ?_
  refine k_get hX io_218 fl_X7_7 rfl dX7_comes_55 ?_
  refine k_iload_n hX (i := 3) rfl rfl dX7_comes_58 ?_
  refine k_iconst (v := (nI 5)) hX rfl dX7_comes_59 ?_
  refine k_iadd hX dX7_comes_60 ?_
  refine k_aload_n hX (i := 0) rfl rfl dX7_comes_61 ?_
  refine k_iload_n hX (i := 1) rfl rfl dX7_comes_62 ?_
  refine k_callVI (vs := [.int p1]) hX (fun _ h9 => m_X7_partMany hX.2.2.2.2.2.2.1  h9) io_218 rfl ml_X7_233 ⟨Nat.le_of_ble_eq_true rfl, Nat.le_of_ble_eq_true rfl⟩ rfl rfl (Nat.le_of_ble_eq_true rfl) dX7_comes_63 (fun q8 => ?_)
  refine k_ast hX locM ia_219 dX7_comes_66 (fun M9 => ?_)
  refine k_iconst (v := (nI 0)) hX rfl dX7_comes_67 ?_
  refine k_istore (L' := [some (.ref (ad 218)), some (.int p1), some (.int v1), some (.int q2.1), some (.int (nI 0))]) hX (by decide) rfl dX7_comes_68 ?_
  exact w_X7_comes_70 hX fuelN p1 v1 q2.1 (nI 0) M9 ⟨rfl, rfl, rfl, rfl, rfl, trivial⟩
set_option maxRecDepth 100000 in
theorem m_X7_comes {l : Launch} {G : GL} {ad : Nat → Nat} {MM : Mem} (hAd : AdOK G ad) {p1 : Int32} {M : Mem} {r : Rv} (h : f_X7_comes p1 M = some r) : Ct PostI l G ad (EM G ad MM) yX7_comes cX7_comes 5 (some .int) 4 90 [.ref (ad 218), .int p1] M r := ct_of' hAd (by decide +kernel) (List.forall_mem_cons.mpr ⟨rfl, (List.forall_mem_cons.mpr ⟨rfl, (fun _ h => absurd h List.not_mem_nil)⟩)⟩) (Nat.le_of_ble_eq_true rfl) (L := [some (.ref (ad 218)), some (.int p1), none, none, none]) rfl (fun _ hX => w_X7_comes hX) h
set_option maxHeartbeats 4000000 in
set_option maxRecDepth 100000 in
theorem w_X7_addWish_53 {l : Launch} {G : GL} {ad : Nat → Nat} {MM : Mem} {X : CT} (hX : Cx l { frames := 12, cells := 0, slots := 0, locals := 269 } cX7_addWish RX7 3 (some .int) G ad X) : ∀ (M : Mem) {L : List (Option Value)}, lsub [none, none, none] L → KF l { frames := 12, cells := 0, slots := 0, locals := 269 } 3 G ad (EM G ad MM) (QP PostI G ad (EM G ad MM)) X (f_X7_addWish_53 M) L 53 [] M := by
  intro M L hL
  unfold f_X7_addWish_53
  refine KF.locals (lsub_le hL) ?_
  refine k_bipush (v := (-3)) hX rfl dX7_addWish_53 ?_
  exact k_iret hX dX7_addWish_55
set_option maxHeartbeats 4000000 in
set_option maxRecDepth 100000 in
theorem w_X7_addWish {l : Launch} {G : GL} {ad : Nat → Nat} {MM : Mem} {X : CT} (hX : Cx l { frames := 12, cells := 0, slots := 0, locals := 269 } cX7_addWish RX7 3 (some .int) G ad X) {M : Mem} : KF l { frames := 12, cells := 0, slots := 0, locals := 269 } 3 G ad (EM G ad MM) (QP PostI G ad (EM G ad MM)) X (f_X7_addWish M) [some (.ref (ad 218)), none, none] 0 [] M := by
  unfold f_X7_addWish
  refine k_aload_n hX (i := 0) rfl rfl dX7_addWish_0 ?_
  refine k_callVI (vs := []) hX (fun _ h9 => m_X7_faultOf hX.2.2.2.2.2.2.1  h9) io_218 rfl ml_X7_239 ⟨Nat.le_of_ble_eq_true rfl, Nat.le_of_ble_eq_true rfl⟩ rfl rfl (Nat.le_of_ble_eq_true rfl) dX7_addWish_1 (fun q1 => ?_)
  refine k_istore_n (L' := [some (.ref (ad 218)), some (.int q1.1), none]) hX (i := 1) rfl (by decide) rfl dX7_addWish_4 ?_
  refine k_iload_n hX (i := 1) rfl rfl dX7_addWish_5 ?_
  refine k_if_lt (tgt := 14) hX dX7_addWish_6 (by decide) (fun b2 => ?_) (fun b2 => ?_)
  · refine k_aload_n hX (i := 0) rfl rfl dX7_addWish_14 ?_
    refine k_get hX io_218 fl_X7_7 rfl dX7_addWish_15 ?_
    refine k_iconst (v := (nI 1)) hX rfl dX7_addWish_18 ?_
    refine k_ald hX ia_219 dX7_addWish_19 (fun v3 => ?_)
    refine k_iconst (v := (nI 1)) hX rfl dX7_addWish_20 ?_
    refine k_icmp_ne (tgt := 27) hX dX7_addWish_21 (by decide) (fun b4 => ?_) (fun b4 => ?_)
    · refine k_aload_n hX (i := 0) rfl rfl dX7_addWish_27 ?_
      refine k_callVI (vs := []) hX (fun _ h9 => m_X7_read hX.2.2.2.2.2.2.1  h9) io_218 rfl ml_X7_243 ⟨Nat.le_of_ble_eq_true rfl, Nat.le_of_ble_eq_true rfl⟩ rfl rfl (Nat.le_of_ble_eq_true rfl) dX7_addWish_28 (fun q5 => ?_)
      refine k_istore_n (L' := [some (.ref (ad 218)), some (.int q1.1), some (.int q5.1)]) hX (i := 2) rfl (by decide) rfl dX7_addWish_31 ?_
      refine k_aload_n hX (i := 0) rfl rfl dX7_addWish_32 ?_
      refine k_get hX io_218 fl_X7_7 rfl dX7_addWish_33 ?_
      refine k_iconst (v := (nI 2)) hX rfl dX7_addWish_36 ?_
      refine k_ald hX ia_219 dX7_addWish_37 (fun v6 => ?_)
      refine k_bipush (v := (nI 8)) hX rfl dX7_addWish_38 ?_
      refine k_icmp_eq (tgt := 53) hX dX7_addWish_40 (by decide) (fun b7 => ?_) (fun b7 => ?_)
      · exact w_X7_addWish_53 hX q5.2 trivial
      refine k_aload_n hX (i := 0) rfl rfl dX7_addWish_43 ?_
      refine k_iload_n hX (i := 2) rfl rfl dX7_addWish_44 ?_
      refine k_callVI (vs := [.int q5.1]) hX (fun _ h9 => m_X7_partMany hX.2.2.2.2.2.2.1  h9) io_218 rfl ml_X7_233 ⟨Nat.le_of_ble_eq_true rfl, Nat.le_of_ble_eq_true rfl⟩ rfl rfl (Nat.le_of_ble_eq_true rfl) dX7_addWish_45 (fun q8 => ?_)
      refine k_bipush (v := (nI 8)) hX rfl dX7_addWish_48 ?_
      refine k_icmp_le (tgt := 56) hX dX7_addWish_50 (by decide) (fun b9 => ?_) (fun b9 => ?_)
      · refine k_aload_n hX (i := 0) rfl rfl dX7_addWish_56 ?_
        refine k_callVV (vs := []) hX (fun _ h9 => m_X7_record hX.2.2.2.2.2.2.1  h9) io_218 rfl ml_X7_191 ⟨Nat.le_of_ble_eq_true rfl, Nat.le_of_ble_eq_true rfl⟩ rfl rfl (Nat.le_of_ble_eq_true rfl) dX7_addWish_57 (fun q10 => ?_)
        refine k_aload_n hX (i := 0) rfl rfl dX7_addWish_60 ?_
        refine k_iload_n hX (i := 2) rfl rfl dX7_addWish_61 ?_
        refine k_callVI (vs := [.int q5.1]) hX (fun _ h9 => m_X7_comes hX.2.2.2.2.2.2.1  h9) io_218 rfl ml_X7_246 ⟨Nat.le_of_ble_eq_true rfl, Nat.le_of_ble_eq_true rfl⟩ rfl rfl (Nat.le_of_ble_eq_true rfl) dX7_addWish_62 (fun q11 => ?_)
        exact k_iret hX dX7_addWish_65
      exact w_X7_addWish_53 hX q8.2 trivial
    refine k_bipush (v := (-4)) hX rfl dX7_addWish_24 ?_
    exact k_iret hX dX7_addWish_26
  refine k_bipush (v := (-100)) hX rfl dX7_addWish_9 ?_
  refine k_iload_n hX (i := 1) rfl rfl dX7_addWish_11 ?_
  refine k_isub hX dX7_addWish_12 ?_
  exact k_iret hX dX7_addWish_13
set_option maxRecDepth 100000 in
theorem m_X7_addWish {l : Launch} {G : GL} {ad : Nat → Nat} {MM : Mem} (hAd : AdOK G ad) {M : Mem} {r : Rv} (h : f_X7_addWish M = some r) : Ct PostI l G ad (EM G ad MM) yX7_addWish cX7_addWish 3 (some .int) 12 269 [.ref (ad 218)] M r := ct_of' hAd (by decide +kernel) (List.forall_mem_cons.mpr ⟨rfl, (fun _ h => absurd h List.not_mem_nil)⟩) (Nat.le_of_ble_eq_true rfl) (L := [some (.ref (ad 218)), none, none]) rfl (fun _ hX => w_X7_addWish hX) h
set_option maxHeartbeats 4000000 in
set_option maxRecDepth 100000 in
theorem w_X7_allOf_56 {l : Launch} {G : GL} {ad : Nat → Nat} {MM : Mem} {X : CT} (hX : Cx l { frames := 5, cells := 0, slots := 0, locals := 118 } cX7_allOf RX7 3 (some .int) G ad X) : ∀ (n : Nat), ∀ (x2 : Int32) (M : Mem) {L : List (Option Value)}, lsub [some (.ref (ad 218)), none, some (.int x2)] L → KF l { frames := 5, cells := 0, slots := 0, locals := 118 } 3 G ad (EM G ad MM) (QP PostI G ad (EM G ad MM)) X (f_X7_allOf_56 n x2 M) L 56 [] M := by
  intro n
  induction n with
  | zero =>
    intro x2 M L hL
    exact KF.none'
  | succ n ih =>
    intro x2 M L hL
    rw [f_X7_allOf_56]
    refine KF.locals (lsub_le hL) ?_
    refine k_iload_n hX (i := 2) rfl rfl dX7_allOf_56 ?_
    refine k_aload_n hX (i := 0) rfl rfl dX7_allOf_57 ?_
    refine k_get hX io_218 fl_X7_249 rfl dX7_allOf_58 ?_
    refine k_icmp_ge (tgt := 81) hX dX7_allOf_61 (by decide) (fun b1 => ?_) (fun b1 => ?_)
    · refine k_aload_n hX (i := 0) rfl rfl dX7_allOf_81 ?_
      refine k_iconst (v := (nI 5)) hX rfl dX7_allOf_82 ?_
      refine k_callVI (vs := [.int (nI 5)]) hX (fun _ h9 => m_X7_endPut hX.2.2.2.2.2.2.1  h9) io_218 rfl ml_X7_127 ⟨Nat.le_of_ble_eq_true rfl, Nat.le_of_ble_eq_true rfl⟩ rfl rfl (Nat.le_of_ble_eq_true rfl) dX7_allOf_83 (fun q2 => ?_)
      exact k_iret hX dX7_allOf_86
    refine k_aload_n hX (i := 0) rfl rfl dX7_allOf_64 ?_
    refine k_iconst (v := (nI 5)) hX rfl dX7_allOf_65 ?_
    refine k_aload_n hX (i := 0) rfl rfl dX7_allOf_66 ?_
    refine k_get hX io_218 fl_X7_56 rfl dX7_allOf_67 ?_
    refine k_iload_n hX (i := 2) rfl rfl dX7_allOf_70 ?_
    refine k_ald hX ia_233 dX7_allOf_71 (fun v3 => ?_)
    refine k_callVV (vs := [.int (nI 5), .int v3]) hX (fun _ h9 => m_X7_putIn hX.2.2.2.2.2.2.1  h9) io_218 rfl ml_X7_124 ⟨Nat.le_of_ble_eq_true rfl, Nat.le_of_ble_eq_true rfl⟩ rfl rfl (Nat.le_of_ble_eq_true rfl) dX7_allOf_72 (fun q4 => ?_)
    refine k_iinc (v := x2 + nI 1) (L' := [some (.ref (ad 218)), none, some (.int (x2 + nI 1))]) hX (i := 2) rfl rfl (by decide) rfl dX7_allOf_75 ?_
    refine k_goto (tgt := 56) hX dX7_allOf_78 (by decide) ?_
    exact ih (x2 + nI 1) q4.2 ⟨rfl, rfl, trivial⟩
set_option maxHeartbeats 4000000 in
set_option maxRecDepth 100000 in
theorem w_X7_allOf_7 {l : Launch} {G : GL} {ad : Nat → Nat} {MM : Mem} {X : CT} (hX : Cx l { frames := 5, cells := 0, slots := 0, locals := 118 } cX7_allOf RX7 3 (some .int) G ad X) : ∀ (n : Nat), ∀ (x1 : Int32) (x2 : Int32) (M : Mem) {L : List (Option Value)}, lsub [some (.ref (ad 218)), some (.int x1), some (.int x2)] L → KF l { frames := 5, cells := 0, slots := 0, locals := 118 } 3 G ad (EM G ad MM) (QP PostI G ad (EM G ad MM)) X (f_X7_allOf_7 n x1 x2 M) L 7 [] M := by
  intro n
  induction n with
  | zero =>
    intro x1 x2 M L hL
    exact KF.none'
  | succ n ih =>
    intro x1 x2 M L hL
    rw [f_X7_allOf_7]
    refine KF.locals (lsub_le hL) ?_
    refine k_iload_n hX (i := 2) rfl rfl dX7_allOf_7 ?_
    refine k_aload_n hX (i := 0) rfl rfl dX7_allOf_8 ?_
    refine k_get hX io_218 fl_X7_7 rfl dX7_allOf_9 ?_
    refine k_iload_n hX (i := 1) rfl rfl dX7_allOf_12 ?_
    refine k_callSI (vs := [.int x1]) hX (fun _ h9 => m_X7_w hX.2.2.2.2.2.2.1  h9) ml_X7_74 ⟨Nat.le_of_ble_eq_true rfl, Nat.le_of_ble_eq_true rfl⟩ rfl rfl (Nat.le_of_ble_eq_true rfl) dX7_allOf_13 (fun q1 => ?_)
    refine k_iconst (v := (nI 5)) hX rfl dX7_allOf_16 ?_
    refine k_iadd hX dX7_allOf_17 ?_
    refine k_ald hX ia_219 dX7_allOf_18 (fun v2 => ?_)
    refine k_icmp_ge (tgt := 50) hX dX7_allOf_19 (by decide) (fun b3 => ?_) (fun b3 => ?_)
    · refine k_aload_n hX (i := 0) rfl rfl dX7_allOf_50 ?_
      refine k_callVV (vs := []) hX (fun _ h9 => m_X7_beginPut hX.2.2.2.2.2.2.1  h9) io_218 rfl ml_X7_121 ⟨Nat.le_of_ble_eq_true rfl, Nat.le_of_ble_eq_true rfl⟩ rfl rfl (Nat.le_of_ble_eq_true rfl) dX7_allOf_51 (fun q4 => ?_)
      refine k_iconst (v := (nI 0)) hX rfl dX7_allOf_54 ?_
      refine k_istore_n (L' := [some (.ref (ad 218)), some (.int x1), some (.int (nI 0))]) hX (i := 2) rfl (by decide) rfl dX7_allOf_55 ?_
      exact w_X7_allOf_56 hX fuelN (nI 0) q4.2 ⟨rfl, rfl, trivial⟩
    refine k_aload_n hX (i := 0) rfl rfl dX7_allOf_22 ?_
    refine k_get hX io_218 fl_X7_56 rfl dX7_allOf_23 ?_
    refine k_iload_n hX (i := 2) rfl rfl dX7_allOf_26 ?_
    refine k_aload_n hX (i := 0) rfl rfl dX7_allOf_27 ?_
    refine k_iload_n hX (i := 1) rfl rfl dX7_allOf_28 ?_
    refine k_iload_n hX (i := 2) rfl rfl dX7_allOf_29 ?_
    refine k_callVI (vs := [.int x1, .int x2]) hX (fun _ h9 => m_X7_load hX.2.2.2.2.2.2.1  h9) io_218 rfl ml_X7_153 ⟨Nat.le_of_ble_eq_true rfl, Nat.le_of_ble_eq_true rfl⟩ rfl rfl (Nat.le_of_ble_eq_true rfl) dX7_allOf_30 (fun q5 => ?_)
    refine k_ast hX locM ia_233 dX7_allOf_33 (fun M6 => ?_)
    refine k_aload_n hX (i := 0) rfl rfl dX7_allOf_34 ?_
    refine k_dup hX rfl dX7_allOf_35 ?_
    refine k_get hX io_218 fl_X7_249 rfl dX7_allOf_36 ?_
    refine k_iconst (v := (nI 1)) hX rfl dX7_allOf_39 ?_
    refine k_iadd hX dX7_allOf_40 ?_
    refine k_puti hX locM io_218 fp_X7_249 (Nat.le_of_ble_eq_true rfl) rfl dX7_allOf_41 (fun M7 => ?_)
    refine k_iinc (v := x2 + nI 1) (L' := [some (.ref (ad 218)), some (.int x1), some (.int (x2 + nI 1))]) hX (i := 2) rfl rfl (by decide) rfl dX7_allOf_44 ?_
    refine k_goto (tgt := 7) hX dX7_allOf_47 (by decide) ?_
    exact ih x1 (x2 + nI 1) M7 ⟨rfl, rfl, rfl, trivial⟩
set_option maxHeartbeats 4000000 in
set_option maxRecDepth 100000 in
theorem w_X7_allOf {l : Launch} {G : GL} {ad : Nat → Nat} {MM : Mem} {X : CT} (hX : Cx l { frames := 5, cells := 0, slots := 0, locals := 118 } cX7_allOf RX7 3 (some .int) G ad X) {p1 : Int32} {M : Mem} : KF l { frames := 5, cells := 0, slots := 0, locals := 118 } 3 G ad (EM G ad MM) (QP PostI G ad (EM G ad MM)) X (f_X7_allOf p1 M) [some (.ref (ad 218)), some (.int p1), none] 0 [] M := by
  unfold f_X7_allOf
  refine k_aload_n hX (i := 0) rfl rfl dX7_allOf_0 ?_
  refine k_iconst (v := (nI 0)) hX rfl dX7_allOf_1 ?_
  refine k_puti hX locM io_218 fp_X7_249 (Nat.le_of_ble_eq_true rfl) rfl dX7_allOf_2 (fun M1 => ?_)
  refine k_iconst (v := (nI 0)) hX rfl dX7_allOf_5 ?_
  refine k_istore_n (L' := [some (.ref (ad 218)), some (.int p1), some (.int (nI 0))]) hX (i := 2) rfl (by decide) rfl dX7_allOf_6 ?_
  exact w_X7_allOf_7 hX fuelN p1 (nI 0) M1 ⟨rfl, rfl, rfl, trivial⟩
set_option maxRecDepth 100000 in
theorem m_X7_allOf {l : Launch} {G : GL} {ad : Nat → Nat} {MM : Mem} (hAd : AdOK G ad) {p1 : Int32} {M : Mem} {r : Rv} (h : f_X7_allOf p1 M = some r) : Ct PostI l G ad (EM G ad MM) yX7_allOf cX7_allOf 3 (some .int) 5 118 [.ref (ad 218), .int p1] M r := ct_of' hAd (by decide +kernel) (List.forall_mem_cons.mpr ⟨rfl, (List.forall_mem_cons.mpr ⟨rfl, (fun _ h => absurd h List.not_mem_nil)⟩)⟩) (Nat.le_of_ble_eq_true rfl) (L := [some (.ref (ad 218)), some (.int p1), none]) rfl (fun _ hX => w_X7_allOf hX) h
set_option maxHeartbeats 4000000 in
set_option maxRecDepth 100000 in
theorem w_X7_join_16 {l : Launch} {G : GL} {ad : Nat → Nat} {MM : Mem} {X : CT} (hX : Cx l { frames := 6, cells := 0, slots := 0, locals := 141 } cX7_join RX7 8 (some .int) G ad X) : ∀ (M : Mem) {L : List (Option Value)}, lsub [none, none, none, none, none, none, none, none] L → KF l { frames := 6, cells := 0, slots := 0, locals := 141 } 8 G ad (EM G ad MM) (QP PostI G ad (EM G ad MM)) X (f_X7_join_16 M) L 16 [] M := by
  intro M L hL
  unfold f_X7_join_16
  refine KF.locals (lsub_le hL) ?_
  refine k_iconst (v := (-1)) hX rfl dX7_join_16 ?_
  exact k_iret hX dX7_join_17
set_option maxHeartbeats 4000000 in
set_option maxRecDepth 100000 in
theorem w_X7_join_125 {l : Launch} {G : GL} {ad : Nat → Nat} {MM : Mem} {X : CT} (hX : Cx l { frames := 6, cells := 0, slots := 0, locals := 141 } cX7_join RX7 8 (some .int) G ad X) {k86 : Int32 → Int32 → Int32 → Mem → Option Rv} (hk86 : ∀ (x5 : Int32) (x6 : Int32) (x7 : Int32) (M : Mem) {L : List (Option Value)}, lsub [some (.ref (ad 218)), none, none, none, none, some (.int x5), some (.int x6), some (.int x7)] L → KF l { frames := 6, cells := 0, slots := 0, locals := 141 } 8 G ad (EM G ad MM) (QP PostI G ad (EM G ad MM)) X (k86 x5 x6 x7 M) L 86 [] M) : ∀ (x5 : Int32) (x7 : Int32) (s0 : Int32) (M : Mem) {L : List (Option Value)}, lsub [some (.ref (ad 218)), none, none, none, none, some (.int x5), none, some (.int x7)] L → KF l { frames := 6, cells := 0, slots := 0, locals := 141 } 8 G ad (EM G ad MM) (QP PostI G ad (EM G ad MM)) X (f_X7_join_125 k86 x5 x7 s0 M) L 125 [.int s0] M := by
  intro x5 x7 s0 M L hL
  unfold f_X7_join_125
  refine KF.locals (lsub_le hL) ?_
  refine k_istore (L' := [some (.ref (ad 218)), none, none, none, none, some (.int x5), some (.int s0), some (.int x7)]) hX (by decide) rfl dX7_join_125 ?_
  refine k_iinc (v := x7 + nI 1) (L' := [some (.ref (ad 218)), none, none, none, none, some (.int x5), some (.int s0), some (.int (x7 + nI 1))]) hX (i := 7) rfl rfl (by decide) rfl dX7_join_127 ?_
  refine k_goto (tgt := 86) hX dX7_join_130 (by decide) ?_
  exact hk86 x5 s0 (x7 + nI 1) M ⟨rfl, rfl, rfl, rfl, trivial⟩
set_option maxHeartbeats 4000000 in
set_option maxRecDepth 100000 in
theorem w_X7_join_120 {l : Launch} {G : GL} {ad : Nat → Nat} {MM : Mem} {X : CT} (hX : Cx l { frames := 6, cells := 0, slots := 0, locals := 141 } cX7_join RX7 8 (some .int) G ad X) {k86 : Int32 → Int32 → Int32 → Mem → Option Rv} (hk86 : ∀ (x5 : Int32) (x6 : Int32) (x7 : Int32) (M : Mem) {L : List (Option Value)}, lsub [some (.ref (ad 218)), none, none, none, none, some (.int x5), some (.int x6), some (.int x7)] L → KF l { frames := 6, cells := 0, slots := 0, locals := 141 } 8 G ad (EM G ad MM) (QP PostI G ad (EM G ad MM)) X (k86 x5 x6 x7 M) L 86 [] M) : ∀ (x5 : Int32) (x7 : Int32) (M : Mem) {L : List (Option Value)}, lsub [some (.ref (ad 218)), none, none, none, none, some (.int x5), none, some (.int x7)] L → KF l { frames := 6, cells := 0, slots := 0, locals := 141 } 8 G ad (EM G ad MM) (QP PostI G ad (EM G ad MM)) X (f_X7_join_120 k86 x5 x7 M) L 120 [] M := by
  intro x5 x7 M L hL
  unfold f_X7_join_120
  refine KF.locals (lsub_le hL) ?_
  refine k_iconst (v := (nI 1)) hX rfl dX7_join_120 ?_
  refine k_goto (tgt := 125) hX dX7_join_121 (by decide) ?_
  exact w_X7_join_125 hX hk86 x5 x7 (nI 1) M ⟨rfl, rfl, rfl, trivial⟩
set_option maxHeartbeats 4000000 in
set_option maxRecDepth 100000 in
theorem w_X7_join_149 {l : Launch} {G : GL} {ad : Nat → Nat} {MM : Mem} {X : CT} (hX : Cx l { frames := 6, cells := 0, slots := 0, locals := 141 } cX7_join RX7 8 (some .int) G ad X) : ∀ (M : Mem) {L : List (Option Value)}, lsub [none, none, none, none, none, none, none, none] L → KF l { frames := 6, cells := 0, slots := 0, locals := 141 } 8 G ad (EM G ad MM) (QP PostI G ad (EM G ad MM)) X (f_X7_join_149 M) L 149 [] M := by
  intro M L hL
  unfold f_X7_join_149
  refine KF.locals (lsub_le hL) ?_
  refine k_bipush (v := (-3)) hX rfl dX7_join_149 ?_
  exact k_iret hX dX7_join_151
set_option maxHeartbeats 4000000 in
set_option maxRecDepth 100000 in
theorem w_X7_join_86 {l : Launch} {G : GL} {ad : Nat → Nat} {MM : Mem} {X : CT} (hX : Cx l { frames := 6, cells := 0, slots := 0, locals := 141 } cX7_join RX7 8 (some .int) G ad X) : ∀ (n : Nat), ∀ (x5 : Int32) (x6 : Int32) (x7 : Int32) (M : Mem) {L : List (Option Value)}, lsub [some (.ref (ad 218)), none, none, none, none, some (.int x5), some (.int x6), some (.int x7)] L → KF l { frames := 6, cells := 0, slots := 0, locals := 141 } 8 G ad (EM G ad MM) (QP PostI G ad (EM G ad MM)) X (f_X7_join_86 n x5 x6 x7 M) L 86 [] M := by
  intro n
  induction n with
  | zero =>
    intro x5 x6 x7 M L hL
    exact KF.none'
  | succ n ih =>
    intro x5 x6 x7 M L hL
    rw [f_X7_join_86]
    refine KF.locals (lsub_le hL) ?_
    refine k_iload hX rfl dX7_join_86 ?_
    refine k_aload_n hX (i := 0) rfl rfl dX7_join_88 ?_
    refine k_iload hX rfl dX7_join_89 ?_
    refine k_callVI (vs := [.int x5]) hX (fun _ h9 => m_X7_partMany hX.2.2.2.2.2.2.1  h9) io_218 rfl ml_X7_233 ⟨Nat.le_of_ble_eq_true rfl, Nat.le_of_ble_eq_true rfl⟩ rfl rfl (Nat.le_of_ble_eq_true rfl) dX7_join_91 (fun q1 => ?_)
    refine k_icmp_ge (tgt := 133) hX dX7_join_94 (by decide) (fun b2 => ?_) (fun b2 => ?_)
    · refine k_aload_n hX (i := 0) rfl rfl dX7_join_133 ?_
      refine k_get hX io_218 fl_X7_7 rfl dX7_join_134 ?_
      refine k_iconst (v := (nI 2)) hX rfl dX7_join_137 ?_
      refine k_ald hX ia_219 dX7_join_138 (fun v3 => ?_)
      refine k_bipush (v := (nI 8)) hX rfl dX7_join_139 ?_
      refine k_icmp_eq (tgt := 149) hX dX7_join_141 (by decide) (fun b4 => ?_) (fun b4 => ?_)
      · exact w_X7_join_149 hX q1.2 trivial
      refine k_iload hX rfl dX7_join_144 ?_
      refine k_if_eq (tgt := 152) hX dX7_join_146 (by decide) (fun b5 => ?_) (fun b5 => ?_)
      · refine k_aload_n hX (i := 0) rfl rfl dX7_join_152 ?_
        refine k_callVV (vs := []) hX (fun _ h9 => m_X7_record hX.2.2.2.2.2.2.1  h9) io_218 rfl ml_X7_191 ⟨Nat.le_of_ble_eq_true rfl, Nat.le_of_ble_eq_true rfl⟩ rfl rfl (Nat.le_of_ble_eq_true rfl) dX7_join_153 (fun q6 => ?_)
        refine k_aload_n hX (i := 0) rfl rfl dX7_join_156 ?_
        refine k_iload hX rfl dX7_join_157 ?_
        refine k_callVI (vs := [.int x5]) hX (fun _ h9 => m_X7_comes hX.2.2.2.2.2.2.1  h9) io_218 rfl ml_X7_246 ⟨Nat.le_of_ble_eq_true rfl, Nat.le_of_ble_eq_true rfl⟩ rfl rfl (Nat.le_of_ble_eq_true rfl) dX7_join_159 (fun q7 => ?_)
        exact k_iret hX dX7_join_162
      exact w_X7_join_149 hX q1.2 trivial
    refine k_iload hX rfl dX7_join_97 ?_
    refine k_if_ne (tgt := 120) hX dX7_join_99 (by decide) (fun b8 => ?_) (fun b8 => ?_)
    · exact w_X7_join_120 hX ih x5 x7 q1.2 ⟨rfl, rfl, rfl, trivial⟩
    refine k_aload_n hX (i := 0) rfl rfl dX7_join_102 ?_
    refine k_get hX io_218 fl_X7_29 rfl dX7_join_103 ?_
    refine k_aload_n hX (i := 0) rfl rfl dX7_join_106 ?_
    refine k_iload hX rfl dX7_join_107 ?_
    refine k_iload hX rfl dX7_join_109 ?_
    refine k_callVI (vs := [.int x5, .int x7]) hX (fun _ h9 => m_X7_partForm hX.2.2.2.2.2.2.1  h9) io_218 rfl ml_X7_236 ⟨Nat.le_of_ble_eq_true rfl, Nat.le_of_ble_eq_true rfl⟩ rfl rfl (Nat.le_of_ble_eq_true rfl) dX7_join_111 (fun q9 => ?_)
    refine k_ald hX ia_225 dX7_join_114 (fun v10 => ?_)
    refine k_bipush (v := (nI 120)) hX rfl dX7_join_115 ?_
    refine k_icmp_le (tgt := 124) hX dX7_join_117 (by decide) (fun b11 => ?_) (fun b11 => ?_)
    · refine k_iconst (v := (nI 0)) hX rfl dX7_join_124 ?_
      exact w_X7_join_125 hX ih x5 x7 (nI 0) q9.2 ⟨rfl, rfl, rfl, trivial⟩
    exact w_X7_join_120 hX ih x5 x7 q9.2 ⟨rfl, rfl, rfl, trivial⟩
set_option maxHeartbeats 4000000 in
set_option maxRecDepth 100000 in
theorem w_X7_join_81 {l : Launch} {G : GL} {ad : Nat → Nat} {MM : Mem} {X : CT} (hX : Cx l { frames := 6, cells := 0, slots := 0, locals := 141 } cX7_join RX7 8 (some .int) G ad X) : ∀ (x5 : Int32) (s0 : Int32) (M : Mem) {L : List (Option Value)}, lsub [some (.ref (ad 218)), none, none, none, none, some (.int x5), none, none] L → KF l { frames := 6, cells := 0, slots := 0, locals := 141 } 8 G ad (EM G ad MM) (QP PostI G ad (EM G ad MM)) X (f_X7_join_81 x5 s0 M) L 81 [.int s0] M := by
  intro x5 s0 M L hL
  unfold f_X7_join_81
  refine KF.locals (lsub_le hL) ?_
  refine k_istore (L' := [some (.ref (ad 218)), none, none, none, none, some (.int x5), some (.int s0), none]) hX (by decide) rfl dX7_join_81 ?_
  refine k_iconst (v := (nI 0)) hX rfl dX7_join_83 ?_
  refine k_istore (L' := [some (.ref (ad 218)), none, none, none, none, some (.int x5), some (.int s0), some (.int (nI 0))]) hX (by decide) rfl dX7_join_84 ?_
  exact w_X7_join_86 hX fuelN x5 s0 (nI 0) M ⟨rfl, rfl, rfl, rfl, trivial⟩
set_option maxHeartbeats 4000000 in
set_option maxRecDepth 100000 in
theorem w_X7_join_53 {l : Launch} {G : GL} {ad : Nat → Nat} {MM : Mem} {X : CT} (hX : Cx l { frames := 6, cells := 0, slots := 0, locals := 141 } cX7_join RX7 8 (some .int) G ad X) : ∀ (x2 : Int32) (x4 : Int32) (s0 : Int32) (M : Mem) {L : List (Option Value)}, lsub [some (.ref (ad 218)), none, some (.int x2), none, some (.int x4), none, none, none] L → KF l { frames := 6, cells := 0, slots := 0, locals := 141 } 8 G ad (EM G ad MM) (QP PostI G ad (EM G ad MM)) X (f_X7_join_53 x2 x4 s0 M) L 53 [.int s0, .ref (ad 218)] M := by
  intro x2 x4 s0 M L hL
  unfold f_X7_join_53
  refine KF.locals (lsub_le hL) ?_
  refine k_iload hX rfl dX7_join_53 ?_
  refine k_aload_n hX (i := 0) rfl rfl dX7_join_55 ?_
  refine k_iload_n hX (i := 2) rfl rfl dX7_join_56 ?_
  refine k_callVI (vs := [.int x2]) hX (fun _ h9 => m_X7_allOf hX.2.2.2.2.2.2.1  h9) io_218 rfl ml_X7_252 ⟨Nat.le_of_ble_eq_true rfl, Nat.le_of_ble_eq_true rfl⟩ rfl rfl (Nat.le_of_ble_eq_true rfl) dX7_join_57 (fun q1 => ?_)
  refine k_callVI (vs := [.int s0, .int x4, .int q1.1]) hX (fun _ h9 => m_X7_both hX.2.2.2.2.2.2.1  h9) io_218 rfl ml_X7_137 ⟨Nat.le_of_ble_eq_true rfl, Nat.le_of_ble_eq_true rfl⟩ rfl rfl (Nat.le_of_ble_eq_true rfl) dX7_join_60 (fun q2 => ?_)
  refine k_istore (L' := [some (.ref (ad 218)), none, some (.int x2), none, some (.int x4), some (.int q2.1), none, none]) hX (by decide) rfl dX7_join_63 ?_
  refine k_aload_n hX (i := 0) rfl rfl dX7_join_65 ?_
  refine k_iload hX rfl dX7_join_66 ?_
  refine k_callVI (vs := [.int q2.1]) hX (fun _ h9 => m_X7_partMany hX.2.2.2.2.2.2.1  h9) io_218 rfl ml_X7_233 ⟨Nat.le_of_ble_eq_true rfl, Nat.le_of_ble_eq_true rfl⟩ rfl rfl (Nat.le_of_ble_eq_true rfl) dX7_join_68 (fun q3 => ?_)
  refine k_bipush (v := (nI 8)) hX rfl dX7_join_71 ?_
  refine k_icmp_le (tgt := 80) hX dX7_join_73 (by decide) (fun b4 => ?_) (fun b4 => ?_)
  · refine k_iconst (v := (nI 0)) hX rfl dX7_join_80 ?_
    exact w_X7_join_81 hX q2.1 (nI 0) q3.2 ⟨rfl, rfl, trivial⟩
  refine k_iconst (v := (nI 1)) hX rfl dX7_join_76 ?_
  refine k_goto (tgt := 81) hX dX7_join_77 (by decide) ?_
  exact w_X7_join_81 hX q2.1 (nI 1) q3.2 ⟨rfl, rfl, trivial⟩
set_option maxHeartbeats 4000000 in
set_option maxRecDepth 100000 in
theorem w_X7_join {l : Launch} {G : GL} {ad : Nat → Nat} {MM : Mem} {X : CT} (hX : Cx l { frames := 6, cells := 0, slots := 0, locals := 141 } cX7_join RX7 8 (some .int) G ad X) {p1 : Int32} {p2 : Int32} {p3 : Int32} {M : Mem} : KF l { frames := 6, cells := 0, slots := 0, locals := 141 } 8 G ad (EM G ad MM) (QP PostI G ad (EM G ad MM)) X (f_X7_join p1 p2 p3 M) [some (.ref (ad 218)), some (.int p1), some (.int p2), some (.int p3), none, none, none, none] 0 [] M := by
  unfold f_X7_join
  refine k_aload_n hX (i := 0) rfl rfl dX7_join_0 ?_
  refine k_iload_n hX (i := 1) rfl rfl dX7_join_1 ?_
  refine k_callVI (vs := [.int p1]) hX (fun _ h9 => m_X7_isThere hX.2.2.2.2.2.2.1  h9) io_218 rfl ml_X7_174 ⟨Nat.le_of_ble_eq_true rfl, Nat.le_of_ble_eq_true rfl⟩ rfl rfl (Nat.le_of_ble_eq_true rfl) dX7_join_2 (fun q1 => ?_)
  refine k_if_eq (tgt := 16) hX dX7_join_5 (by decide) (fun b2 => ?_) (fun b2 => ?_)
  · exact w_X7_join_16 hX q1.2 trivial
  refine k_aload_n hX (i := 0) rfl rfl dX7_join_8 ?_
  refine k_iload_n hX (i := 2) rfl rfl dX7_join_9 ?_
  refine k_callVI (vs := [.int p2]) hX (fun _ h9 => m_X7_isThere hX.2.2.2.2.2.2.1  h9) io_218 rfl ml_X7_174 ⟨Nat.le_of_ble_eq_true rfl, Nat.le_of_ble_eq_true rfl⟩ rfl rfl (Nat.le_of_ble_eq_true rfl) dX7_join_10 (fun q3 => ?_)
  refine k_if_ne (tgt := 18) hX dX7_join_13 (by decide) (fun b4 => ?_) (fun b4 => ?_)
  · refine k_aload_n hX (i := 0) rfl rfl dX7_join_18 ?_
    refine k_get hX io_218 fl_X7_7 rfl dX7_join_19 ?_
    refine k_iconst (v := (nI 1)) hX rfl dX7_join_22 ?_
    refine k_ald hX ia_219 dX7_join_23 (fun v5 => ?_)
    refine k_iconst (v := (nI 1)) hX rfl dX7_join_24 ?_
    refine k_icmp_ne (tgt := 31) hX dX7_join_25 (by decide) (fun b6 => ?_) (fun b6 => ?_)
    · refine k_aload_n hX (i := 0) rfl rfl dX7_join_31 ?_
      refine k_callVV (vs := []) hX (fun _ h9 => m_X7_empty hX.2.2.2.2.2.2.1  h9) io_218 rfl ml_X7_62 ⟨Nat.le_of_ble_eq_true rfl, Nat.le_of_ble_eq_true rfl⟩ rfl rfl (Nat.le_of_ble_eq_true rfl) dX7_join_32 (fun q7 => ?_)
      refine k_aload_n hX (i := 0) rfl rfl dX7_join_35 ?_
      refine k_iload_n hX (i := 1) rfl rfl dX7_join_36 ?_
      refine k_callVI (vs := [.int p1]) hX (fun _ h9 => m_X7_allOf hX.2.2.2.2.2.2.1  h9) io_218 rfl ml_X7_252 ⟨Nat.le_of_ble_eq_true rfl, Nat.le_of_ble_eq_true rfl⟩ rfl rfl (Nat.le_of_ble_eq_true rfl) dX7_join_37 (fun q8 => ?_)
      refine k_istore (L' := [some (.ref (ad 218)), some (.int p1), some (.int p2), some (.int p3), some (.int q8.1), none, none, none]) hX (by decide) rfl dX7_join_40 ?_
      refine k_aload_n hX (i := 0) rfl rfl dX7_join_42 ?_
      refine k_iload_n hX (i := 3) rfl rfl dX7_join_43 ?_
      refine k_if_eq (tgt := 52) hX dX7_join_44 (by decide) (fun b9 => ?_) (fun b9 => ?_)
      · refine k_iconst (v := (nI 5)) hX rfl dX7_join_52 ?_
        exact w_X7_join_53 hX p2 q8.1 (nI 5) q8.2 ⟨rfl, rfl, rfl, trivial⟩
      refine k_bipush (v := (nI 6)) hX rfl dX7_join_47 ?_
      refine k_goto (tgt := 53) hX dX7_join_49 (by decide) ?_
      exact w_X7_join_53 hX p2 q8.1 (nI 6) q8.2 ⟨rfl, rfl, rfl, trivial⟩
    refine k_bipush (v := (-4)) hX rfl dX7_join_28 ?_
    exact k_iret hX dX7_join_30
  exact w_X7_join_16 hX q3.2 trivial
set_option maxRecDepth 100000 in
theorem m_X7_join {l : Launch} {G : GL} {ad : Nat → Nat} {MM : Mem} (hAd : AdOK G ad) {p1 : Int32} {p2 : Int32} {p3 : Int32} {M : Mem} {r : Rv} (h : f_X7_join p1 p2 p3 M = some r) : Ct PostI l G ad (EM G ad MM) yX7_join cX7_join 8 (some .int) 6 141 [.ref (ad 218), .int p1, .int p2, .int p3] M r := ct_of' hAd (by decide +kernel) (List.forall_mem_cons.mpr ⟨rfl, (List.forall_mem_cons.mpr ⟨rfl, (List.forall_mem_cons.mpr ⟨rfl, (List.forall_mem_cons.mpr ⟨rfl, (fun _ h => absurd h List.not_mem_nil)⟩)⟩)⟩)⟩) (Nat.le_of_ble_eq_true rfl) (L := [some (.ref (ad 218)), some (.int p1), some (.int p2), some (.int p3), none, none, none, none]) rfl (fun _ hX => w_X7_join hX) h
set_option maxHeartbeats 4000000 in
set_option maxRecDepth 100000 in
theorem w_X7_thereMany_24 {l : Launch} {G : GL} {ad : Nat → Nat} {MM : Mem} {X : CT} (hX : Cx l { frames := 2, cells := 0, slots := 0, locals := 43 } cX7_thereMany RX7 3 (some .int) G ad X) {k4 : Int32 → Int32 → Mem → Option Rv} (hk4 : ∀ (x1 : Int32) (x2 : Int32) (M : Mem) {L : List (Option Value)}, lsub [some (.ref (ad 218)), some (.int x1), some (.int x2)] L → KF l { frames := 2, cells := 0, slots := 0, locals := 43 } 3 G ad (EM G ad MM) (QP PostI G ad (EM G ad MM)) X (k4 x1 x2 M) L 4 [] M) : ∀ (x2 : Int32) (s0 : Int32) (s1 : Int32) (M : Mem) {L : List (Option Value)}, lsub [some (.ref (ad 218)), none, some (.int x2)] L → KF l { frames := 2, cells := 0, slots := 0, locals := 43 } 3 G ad (EM G ad MM) (QP PostI G ad (EM G ad MM)) X (f_X7_thereMany_24 k4 x2 s0 s1 M) L 24 [.int s0, .int s1] M := by
  intro x2 s0 s1 M L hL
  unfold f_X7_thereMany_24
  refine KF.locals (lsub_le hL) ?_
  refine k_iadd hX dX7_thereMany_24 ?_
  refine k_istore_n (L' := [some (.ref (ad 218)), some (.int (s1 + s0)), some (.int x2)]) hX (i := 1) rfl (by decide) rfl dX7_thereMany_25 ?_
  refine k_iinc (v := x2 + nI 1) (L' := [some (.ref (ad 218)), some (.int (s1 + s0)), some (.int (x2 + nI 1))]) hX (i := 2) rfl rfl (by decide) rfl dX7_thereMany_26 ?_
  refine k_goto (tgt := 4) hX dX7_thereMany_29 (by decide) ?_
  exact hk4 (s1 + s0) (x2 + nI 1) M ⟨rfl, rfl, rfl, trivial⟩
set_option maxHeartbeats 4000000 in
set_option maxRecDepth 100000 in
theorem w_X7_thereMany_4 {l : Launch} {G : GL} {ad : Nat → Nat} {MM : Mem} {X : CT} (hX : Cx l { frames := 2, cells := 0, slots := 0, locals := 43 } cX7_thereMany RX7 3 (some .int) G ad X) : ∀ (n : Nat), ∀ (x1 : Int32) (x2 : Int32) (M : Mem) {L : List (Option Value)}, lsub [some (.ref (ad 218)), some (.int x1), some (.int x2)] L → KF l { frames := 2, cells := 0, slots := 0, locals := 43 } 3 G ad (EM G ad MM) (QP PostI G ad (EM G ad MM)) X (f_X7_thereMany_4 n x1 x2 M) L 4 [] M := by
  intro n
  induction n with
  | zero =>
    intro x1 x2 M L hL
    exact KF.none'
  | succ n ih =>
    intro x1 x2 M L hL
    rw [f_X7_thereMany_4]
    refine KF.locals (lsub_le hL) ?_
    refine k_iload_n hX (i := 2) rfl rfl dX7_thereMany_4 ?_
    refine k_bipush (v := (nI 8)) hX rfl dX7_thereMany_5 ?_
    refine k_icmp_ge (tgt := 32) hX dX7_thereMany_7 (by decide) (fun b1 => ?_) (fun b1 => ?_)
    · refine k_iload_n hX (i := 1) rfl rfl dX7_thereMany_32 ?_
      exact k_iret hX dX7_thereMany_33
    refine k_iload_n hX (i := 1) rfl rfl dX7_thereMany_10 ?_
    refine k_aload_n hX (i := 0) rfl rfl dX7_thereMany_11 ?_
    refine k_iload_n hX (i := 2) rfl rfl dX7_thereMany_12 ?_
    refine k_callVI (vs := [.int x2]) hX (fun _ h9 => m_X7_isThere hX.2.2.2.2.2.2.1  h9) io_218 rfl ml_X7_174 ⟨Nat.le_of_ble_eq_true rfl, Nat.le_of_ble_eq_true rfl⟩ rfl rfl (Nat.le_of_ble_eq_true rfl) dX7_thereMany_13 (fun q2 => ?_)
    refine k_if_eq (tgt := 23) hX dX7_thereMany_16 (by decide) (fun b3 => ?_) (fun b3 => ?_)
    · refine k_iconst (v := (nI 0)) hX rfl dX7_thereMany_23 ?_
      exact w_X7_thereMany_24 hX ih x2 (nI 0) x1 q2.2 ⟨rfl, rfl, trivial⟩
    refine k_iconst (v := (nI 1)) hX rfl dX7_thereMany_19 ?_
    refine k_goto (tgt := 24) hX dX7_thereMany_20 (by decide) ?_
    exact w_X7_thereMany_24 hX ih x2 (nI 1) x1 q2.2 ⟨rfl, rfl, trivial⟩
set_option maxHeartbeats 4000000 in
set_option maxRecDepth 100000 in
theorem w_X7_thereMany {l : Launch} {G : GL} {ad : Nat → Nat} {MM : Mem} {X : CT} (hX : Cx l { frames := 2, cells := 0, slots := 0, locals := 43 } cX7_thereMany RX7 3 (some .int) G ad X) {M : Mem} : KF l { frames := 2, cells := 0, slots := 0, locals := 43 } 3 G ad (EM G ad MM) (QP PostI G ad (EM G ad MM)) X (f_X7_thereMany M) [some (.ref (ad 218)), none, none] 0 [] M := by
  unfold f_X7_thereMany
  refine k_iconst (v := (nI 0)) hX rfl dX7_thereMany_0 ?_
  refine k_istore_n (L' := [some (.ref (ad 218)), some (.int (nI 0)), none]) hX (i := 1) rfl (by decide) rfl dX7_thereMany_1 ?_
  refine k_iconst (v := (nI 0)) hX rfl dX7_thereMany_2 ?_
  refine k_istore_n (L' := [some (.ref (ad 218)), some (.int (nI 0)), some (.int (nI 0))]) hX (i := 2) rfl (by decide) rfl dX7_thereMany_3 ?_
  exact w_X7_thereMany_4 hX fuelN (nI 0) (nI 0) M ⟨rfl, rfl, rfl, trivial⟩
set_option maxRecDepth 100000 in
theorem m_X7_thereMany {l : Launch} {G : GL} {ad : Nat → Nat} {MM : Mem} (hAd : AdOK G ad) {M : Mem} {r : Rv} (h : f_X7_thereMany M = some r) : Ct PostI l G ad (EM G ad MM) yX7_thereMany cX7_thereMany 3 (some .int) 2 43 [.ref (ad 218)] M r := ct_of' hAd (by decide +kernel) (List.forall_mem_cons.mpr ⟨rfl, (fun _ h => absurd h List.not_mem_nil)⟩) (Nat.le_of_ble_eq_true rfl) (L := [some (.ref (ad 218)), none, none]) rfl (fun _ hX => w_X7_thereMany hX) h
set_option maxHeartbeats 4000000 in
set_option maxRecDepth 100000 in
theorem w_X7_removeWish {l : Launch} {G : GL} {ad : Nat → Nat} {MM : Mem} {X : CT} (hX : Cx l { frames := 3, cells := 0, slots := 0, locals := 65 } cX7_removeWish RX7 2 (some .int) G ad X) {p1 : Int32} {M : Mem} : KF l { frames := 3, cells := 0, slots := 0, locals := 65 } 2 G ad (EM G ad MM) (QP PostI G ad (EM G ad MM)) X (f_X7_removeWish p1 M) [some (.ref (ad 218)), some (.int p1)] 0 [] M := by
  unfold f_X7_removeWish
  refine k_aload_n hX (i := 0) rfl rfl dX7_removeWish_0 ?_
  refine k_iload_n hX (i := 1) rfl rfl dX7_removeWish_1 ?_
  refine k_callVI (vs := [.int p1]) hX (fun _ h9 => m_X7_isThere hX.2.2.2.2.2.2.1  h9) io_218 rfl ml_X7_174 ⟨Nat.le_of_ble_eq_true rfl, Nat.le_of_ble_eq_true rfl⟩ rfl rfl (Nat.le_of_ble_eq_true rfl) dX7_removeWish_2 (fun q1 => ?_)
  refine k_if_ne (tgt := 10) hX dX7_removeWish_5 (by decide) (fun b2 => ?_) (fun b2 => ?_)
  · refine k_aload_n hX (i := 0) rfl rfl dX7_removeWish_10 ?_
    refine k_callVV (vs := []) hX (fun _ h9 => m_X7_record hX.2.2.2.2.2.2.1  h9) io_218 rfl ml_X7_191 ⟨Nat.le_of_ble_eq_true rfl, Nat.le_of_ble_eq_true rfl⟩ rfl rfl (Nat.le_of_ble_eq_true rfl) dX7_removeWish_11 (fun q3 => ?_)
    refine k_aload_n hX (i := 0) rfl rfl dX7_removeWish_14 ?_
    refine k_get hX io_218 fl_X7_7 rfl dX7_removeWish_15 ?_
    refine k_iload_n hX (i := 1) rfl rfl dX7_removeWish_18 ?_
    refine k_callSI (vs := [.int p1]) hX (fun _ h9 => m_X7_w hX.2.2.2.2.2.2.1  h9) ml_X7_74 ⟨Nat.le_of_ble_eq_true rfl, Nat.le_of_ble_eq_true rfl⟩ rfl rfl (Nat.le_of_ble_eq_true rfl) dX7_removeWish_19 (fun q4 => ?_)
    refine k_iconst (v := (nI 0)) hX rfl dX7_removeWish_22 ?_
    refine k_iadd hX dX7_removeWish_23 ?_
    refine k_iconst (v := (nI 0)) hX rfl dX7_removeWish_24 ?_
    refine k_ast hX locM ia_219 dX7_removeWish_25 (fun M5 => ?_)
    refine k_aload_n hX (i := 0) rfl rfl dX7_removeWish_26 ?_
    refine k_callVI (vs := []) hX (fun _ h9 => m_X7_thereMany hX.2.2.2.2.2.2.1  h9) io_218 rfl ml_X7_255 ⟨Nat.le_of_ble_eq_true rfl, Nat.le_of_ble_eq_true rfl⟩ rfl rfl (Nat.le_of_ble_eq_true rfl) dX7_removeWish_27 (fun q6 => ?_)
    exact k_iret hX dX7_removeWish_30
  refine k_iconst (v := (-1)) hX rfl dX7_removeWish_8 ?_
  exact k_iret hX dX7_removeWish_9
set_option maxRecDepth 100000 in
theorem m_X7_removeWish {l : Launch} {G : GL} {ad : Nat → Nat} {MM : Mem} (hAd : AdOK G ad) {p1 : Int32} {M : Mem} {r : Rv} (h : f_X7_removeWish p1 M = some r) : Ct PostI l G ad (EM G ad MM) yX7_removeWish cX7_removeWish 2 (some .int) 3 65 [.ref (ad 218), .int p1] M r := ct_of' hAd (by decide +kernel) (List.forall_mem_cons.mpr ⟨rfl, (List.forall_mem_cons.mpr ⟨rfl, (fun _ h => absurd h List.not_mem_nil)⟩)⟩) (Nat.le_of_ble_eq_true rfl) (L := [some (.ref (ad 218)), some (.int p1)]) rfl (fun _ hX => w_X7_removeWish hX) h
set_option maxHeartbeats 4000000 in
set_option maxRecDepth 100000 in
theorem w_X7_type {l : Launch} {G : GL} {ad : Nat → Nat} {MM : Mem} {X : CT} (hX : Cx l { frames := 0, cells := 0, slots := 0, locals := 0 } cX7_type RX7 2 (some .int) G ad X) {p1 : Int32} {M : Mem} : KF l { frames := 0, cells := 0, slots := 0, locals := 0 } 2 G ad (EM G ad MM) (QP PostI G ad (EM G ad MM)) X (f_X7_type p1 M) [some (.ref (ad 218)), some (.int p1)] 0 [] M := by
  unfold f_X7_type
  refine k_aload_n hX (i := 0) rfl rfl dX7_type_0 ?_
  refine k_get hX io_218 fl_X7_200 rfl dX7_type_1 ?_
  refine k_bipush (v := (nI 60)) hX rfl dX7_type_4 ?_
  refine k_icmp_ne (tgt := 12) hX dX7_type_6 (by decide) (fun b1 => ?_) (fun b1 => ?_)
  · refine k_aload_n hX (i := 0) rfl rfl dX7_type_12 ?_
    refine k_get hX io_218 fl_X7_59 rfl dX7_type_13 ?_
    refine k_aload_n hX (i := 0) rfl rfl dX7_type_16 ?_
    refine k_get hX io_218 fl_X7_200 rfl dX7_type_17 ?_
    refine k_iload_n hX (i := 1) rfl rfl dX7_type_20 ?_
    refine k_cast hX locM ia_234 dX7_type_21 (fun M2 => ?_)
    refine k_aload_n hX (i := 0) rfl rfl dX7_type_22 ?_
    refine k_dup hX rfl dX7_type_23 ?_
    refine k_get hX io_218 fl_X7_200 rfl dX7_type_24 ?_
    refine k_iconst (v := (nI 1)) hX rfl dX7_type_27 ?_
    refine k_iadd hX dX7_type_28 ?_
    refine k_puti hX locM io_218 fp_X7_200 (Nat.le_of_ble_eq_true rfl) rfl dX7_type_29 (fun M3 => ?_)
    refine k_aload_n hX (i := 0) rfl rfl dX7_type_32 ?_
    refine k_get hX io_218 fl_X7_200 rfl dX7_type_33 ?_
    exact k_iret hX dX7_type_36
  refine k_bipush (v := (-3)) hX rfl dX7_type_9 ?_
  exact k_iret hX dX7_type_11
set_option maxRecDepth 100000 in
theorem m_X7_type {l : Launch} {G : GL} {ad : Nat → Nat} {MM : Mem} (hAd : AdOK G ad) {p1 : Int32} {M : Mem} {r : Rv} (h : f_X7_type p1 M = some r) : Ct PostI l G ad (EM G ad MM) yX7_type cX7_type 2 (some .int) 0 0 [.ref (ad 218), .int p1] M r := ct_of' hAd (by decide +kernel) (List.forall_mem_cons.mpr ⟨rfl, (List.forall_mem_cons.mpr ⟨rfl, (fun _ h => absurd h List.not_mem_nil)⟩)⟩) (Nat.le_of_ble_eq_true rfl) (L := [some (.ref (ad 218)), some (.int p1)]) rfl (fun _ hX => w_X7_type hX) h
set_option maxHeartbeats 4000000 in
set_option maxRecDepth 100000 in
theorem w_X7_clearText {l : Launch} {G : GL} {ad : Nat → Nat} {MM : Mem} {X : CT} (hX : Cx l { frames := 0, cells := 0, slots := 0, locals := 0 } cX7_clearText RX7 2 (some .int) G ad X) {M : Mem} : KF l { frames := 0, cells := 0, slots := 0, locals := 0 } 2 G ad (EM G ad MM) (QP PostI G ad (EM G ad MM)) X (f_X7_clearText M) [some (.ref (ad 218)), none] 0 [] M := by
  unfold f_X7_clearText
  refine k_aload_n hX (i := 0) rfl rfl dX7_clearText_0 ?_
  refine k_get hX io_218 fl_X7_200 rfl dX7_clearText_1 ?_
  refine k_istore_n (L' := [some (.ref (ad 218)), some (.int (M 218 23))]) hX (i := 1) rfl (by decide) rfl dX7_clearText_4 ?_
  refine k_aload_n hX (i := 0) rfl rfl dX7_clearText_5 ?_
  refine k_iconst (v := (nI 0)) hX rfl dX7_clearText_6 ?_
  refine k_puti hX locM io_218 fp_X7_200 (Nat.le_of_ble_eq_true rfl) rfl dX7_clearText_7 (fun M1 => ?_)
  refine k_iload_n hX (i := 1) rfl rfl dX7_clearText_10 ?_
  exact k_iret hX dX7_clearText_11
set_option maxRecDepth 100000 in
theorem m_X7_clearText {l : Launch} {G : GL} {ad : Nat → Nat} {MM : Mem} (hAd : AdOK G ad) {M : Mem} {r : Rv} (h : f_X7_clearText M = some r) : Ct PostI l G ad (EM G ad MM) yX7_clearText cX7_clearText 2 (some .int) 0 0 [.ref (ad 218)] M r := ct_of' hAd (by decide +kernel) (List.forall_mem_cons.mpr ⟨rfl, (fun _ h => absurd h List.not_mem_nil)⟩) (Nat.le_of_ble_eq_true rfl) (L := [some (.ref (ad 218)), none]) rfl (fun _ hX => w_X7_clearText hX) h
set_option maxHeartbeats 4000000 in
set_option maxRecDepth 100000 in
theorem w_X7_undo_22 {l : Launch} {G : GL} {ad : Nat → Nat} {MM : Mem} {X : CT} (hX : Cx l { frames := 0, cells := 0, slots := 0, locals := 0 } cX7_undo RX7 2 (some .int) G ad X) : ∀ (n : Nat), ∀ (x1 : Int32) (M : Mem) {L : List (Option Value)}, lsub [some (.ref (ad 218)), some (.int x1)] L → KF l { frames := 0, cells := 0, slots := 0, locals := 0 } 2 G ad (EM G ad MM) (QP PostI G ad (EM G ad MM)) X (f_X7_undo_22 n x1 M) L 22 [] M := by
  intro n
  induction n with
  | zero =>
    intro x1 M L hL
    exact KF.none'
  | succ n ih =>
    intro x1 M L hL
    rw [f_X7_undo_22]
    refine KF.locals (lsub_le hL) ?_
    refine k_iload_n hX (i := 1) rfl rfl dX7_undo_22 ?_
    refine k_sipush (v := (nI 31088)) hX rfl dX7_undo_23 ?_
    refine k_icmp_ge (tgt := 56) hX dX7_undo_26 (by decide) (fun b1 => ?_) (fun b1 => ?_)
    · refine k_aload_n hX (i := 0) rfl rfl dX7_undo_56 ?_
      refine k_get hX io_218 fl_X7_65 rfl dX7_undo_57 ?_
      exact k_iret hX dX7_undo_60
    refine k_aload_n hX (i := 0) rfl rfl dX7_undo_29 ?_
    refine k_get hX io_218 fl_X7_7 rfl dX7_undo_30 ?_
    refine k_iload_n hX (i := 1) rfl rfl dX7_undo_33 ?_
    refine k_aload_n hX (i := 0) rfl rfl dX7_undo_34 ?_
    refine k_get hX io_218 fl_X7_14 rfl dX7_undo_35 ?_
    refine k_sipush (v := (nI 31088)) hX rfl dX7_undo_38 ?_
    refine k_aload_n hX (i := 0) rfl rfl dX7_undo_41 ?_
    refine k_get hX io_218 fl_X7_65 rfl dX7_undo_42 ?_
    refine k_imul hX dX7_undo_45 ?_
    refine k_iload_n hX (i := 1) rfl rfl dX7_undo_46 ?_
    refine k_iadd hX dX7_undo_47 ?_
    refine k_ald hX ia_220 dX7_undo_48 (fun v2 => ?_)
    refine k_ast hX locM ia_219 dX7_undo_49 (fun M3 => ?_)
    refine k_iinc (v := x1 + nI 1) (L' := [some (.ref (ad 218)), some (.int (x1 + nI 1))]) hX (i := 1) rfl rfl (by decide) rfl dX7_undo_50 ?_
    refine k_goto (tgt := 22) hX dX7_undo_53 (by decide) ?_
    exact ih (x1 + nI 1) M3 ⟨rfl, rfl, trivial⟩
set_option maxHeartbeats 4000000 in
set_option maxRecDepth 100000 in
theorem w_X7_undo {l : Launch} {G : GL} {ad : Nat → Nat} {MM : Mem} {X : CT} (hX : Cx l { frames := 0, cells := 0, slots := 0, locals := 0 } cX7_undo RX7 2 (some .int) G ad X) {M : Mem} : KF l { frames := 0, cells := 0, slots := 0, locals := 0 } 2 G ad (EM G ad MM) (QP PostI G ad (EM G ad MM)) X (f_X7_undo M) [some (.ref (ad 218)), none] 0 [] M := by
  unfold f_X7_undo
  refine k_aload_n hX (i := 0) rfl rfl dX7_undo_0 ?_
  refine k_get hX io_218 fl_X7_65 rfl dX7_undo_1 ?_
  refine k_if_ne (tgt := 10) hX dX7_undo_4 (by decide) (fun b1 => ?_) (fun b1 => ?_)
  · refine k_aload_n hX (i := 0) rfl rfl dX7_undo_10 ?_
    refine k_dup hX rfl dX7_undo_11 ?_
    refine k_get hX io_218 fl_X7_65 rfl dX7_undo_12 ?_
    refine k_iconst (v := (nI 1)) hX rfl dX7_undo_15 ?_
    refine k_isub hX dX7_undo_16 ?_
    refine k_puti hX locM io_218 fp_X7_65 (Nat.le_of_ble_eq_true rfl) rfl dX7_undo_17 (fun M2 => ?_)
    refine k_iconst (v := (nI 0)) hX rfl dX7_undo_20 ?_
    refine k_istore_n (L' := [some (.ref (ad 218)), some (.int (nI 0))]) hX (i := 1) rfl (by decide) rfl dX7_undo_21 ?_
    exact w_X7_undo_22 hX fuelN (nI 0) M2 ⟨rfl, rfl, trivial⟩
  refine k_bipush (v := (-5)) hX rfl dX7_undo_7 ?_
  exact k_iret hX dX7_undo_9
set_option maxRecDepth 100000 in
theorem m_X7_undo {l : Launch} {G : GL} {ad : Nat → Nat} {MM : Mem} (hAd : AdOK G ad) {M : Mem} {r : Rv} (h : f_X7_undo M = some r) : Ct PostI l G ad (EM G ad MM) yX7_undo cX7_undo 2 (some .int) 0 0 [.ref (ad 218)] M r := ct_of' hAd (by decide +kernel) (List.forall_mem_cons.mpr ⟨rfl, (fun _ h => absurd h List.not_mem_nil)⟩) (Nat.le_of_ble_eq_true rfl) (L := [some (.ref (ad 218)), none]) rfl (fun _ hX => w_X7_undo hX) h
set_option maxHeartbeats 4000000 in
set_option maxRecDepth 100000 in
theorem w_X7_keep_2 {l : Launch} {G : GL} {ad : Nat → Nat} {MM : Mem} {X : CT} (hX : Cx l { frames := 0, cells := 0, slots := 0, locals := 0 } cX7_keep RX7 2 (some .int) G ad X) : ∀ (n : Nat), ∀ (x1 : Int32) (M : Mem) {L : List (Option Value)}, lsub [some (.ref (ad 218)), some (.int x1)] L → KF l { frames := 0, cells := 0, slots := 0, locals := 0 } 2 G ad (EM G ad MM) (QP PostI G ad (EM G ad MM)) X (f_X7_keep_2 n x1 M) L 2 [] M := by
  intro n
  induction n with
  | zero =>
    intro x1 M L hL
    exact KF.none'
  | succ n ih =>
    intro x1 M L hL
    rw [f_X7_keep_2]
    refine KF.locals (lsub_le hL) ?_
    refine k_iload_n hX (i := 1) rfl rfl dX7_keep_2 ?_
    refine k_sipush (v := (nI 31088)) hX rfl dX7_keep_3 ?_
    refine k_icmp_ge (tgt := 27) hX dX7_keep_6 (by decide) (fun b1 => ?_) (fun b1 => ?_)
    · refine k_aload_n hX (i := 0) rfl rfl dX7_keep_27 ?_
      refine k_iconst (v := (nI 1)) hX rfl dX7_keep_28 ?_
      refine k_putz hX locM io_218 fp_X7_258 (Nat.le_of_ble_eq_true rfl) rfl dX7_keep_29 (fun M2 => ?_)
      refine k_aload_n hX (i := 0) rfl rfl dX7_keep_32 ?_
      refine k_get hX io_218 fl_X7_7 rfl dX7_keep_33 ?_
      refine k_iconst (v := (nI 0)) hX rfl dX7_keep_36 ?_
      refine k_ald hX ia_219 dX7_keep_37 (fun v3 => ?_)
      exact k_iret hX dX7_keep_38
    refine k_aload_n hX (i := 0) rfl rfl dX7_keep_9 ?_
    refine k_get hX io_218 fl_X7_17 rfl dX7_keep_10 ?_
    refine k_iload_n hX (i := 1) rfl rfl dX7_keep_13 ?_
    refine k_aload_n hX (i := 0) rfl rfl dX7_keep_14 ?_
    refine k_get hX io_218 fl_X7_7 rfl dX7_keep_15 ?_
    refine k_iload_n hX (i := 1) rfl rfl dX7_keep_18 ?_
    refine k_ald hX ia_219 dX7_keep_19 (fun v4 => ?_)
    refine k_ast hX locM ia_221 dX7_keep_20 (fun M5 => ?_)
    refine k_iinc (v := x1 + nI 1) (L' := [some (.ref (ad 218)), some (.int (x1 + nI 1))]) hX (i := 1) rfl rfl (by decide) rfl dX7_keep_21 ?_
    refine k_goto (tgt := 2) hX dX7_keep_24 (by decide) ?_
    exact ih (x1 + nI 1) M5 ⟨rfl, rfl, trivial⟩
set_option maxHeartbeats 4000000 in
set_option maxRecDepth 100000 in
theorem w_X7_keep {l : Launch} {G : GL} {ad : Nat → Nat} {MM : Mem} {X : CT} (hX : Cx l { frames := 0, cells := 0, slots := 0, locals := 0 } cX7_keep RX7 2 (some .int) G ad X) {M : Mem} : KF l { frames := 0, cells := 0, slots := 0, locals := 0 } 2 G ad (EM G ad MM) (QP PostI G ad (EM G ad MM)) X (f_X7_keep M) [some (.ref (ad 218)), none] 0 [] M := by
  unfold f_X7_keep
  refine k_iconst (v := (nI 0)) hX rfl dX7_keep_0 ?_
  refine k_istore_n (L' := [some (.ref (ad 218)), some (.int (nI 0))]) hX (i := 1) rfl (by decide) rfl dX7_keep_1 ?_
  exact w_X7_keep_2 hX fuelN (nI 0) M ⟨rfl, rfl, trivial⟩
set_option maxRecDepth 100000 in
theorem m_X7_keep {l : Launch} {G : GL} {ad : Nat → Nat} {MM : Mem} (hAd : AdOK G ad) {M : Mem} {r : Rv} (h : f_X7_keep M = some r) : Ct PostI l G ad (EM G ad MM) yX7_keep cX7_keep 2 (some .int) 0 0 [.ref (ad 218)] M r := ct_of' hAd (by decide +kernel) (List.forall_mem_cons.mpr ⟨rfl, (fun _ h => absurd h List.not_mem_nil)⟩) (Nat.le_of_ble_eq_true rfl) (L := [some (.ref (ad 218)), none]) rfl (fun _ hX => w_X7_keep hX) h
set_option maxHeartbeats 4000000 in
set_option maxRecDepth 100000 in
theorem w_X7_restore_16 {l : Launch} {G : GL} {ad : Nat → Nat} {MM : Mem} {X : CT} (hX : Cx l { frames := 1, cells := 0, slots := 0, locals := 21 } cX7_restore RX7 2 (some .int) G ad X) : ∀ (n : Nat), ∀ (x1 : Int32) (M : Mem) {L : List (Option Value)}, lsub [some (.ref (ad 218)), some (.int x1)] L → KF l { frames := 1, cells := 0, slots := 0, locals := 21 } 2 G ad (EM G ad MM) (QP PostI G ad (EM G ad MM)) X (f_X7_restore_16 n x1 M) L 16 [] M := by
  intro n
  induction n with
  | zero =>
    intro x1 M L hL
    exact KF.none'
  | succ n ih =>
    intro x1 M L hL
    rw [f_X7_restore_16]
    refine KF.locals (lsub_le hL) ?_
    refine k_iload_n hX (i := 1) rfl rfl dX7_restore_16 ?_
    refine k_sipush (v := (nI 31088)) hX rfl dX7_restore_17 ?_
    refine k_icmp_ge (tgt := 41) hX dX7_restore_20 (by decide) (fun b1 => ?_) (fun b1 => ?_)
    · refine k_aload_n hX (i := 0) rfl rfl dX7_restore_41 ?_
      refine k_get hX io_218 fl_X7_7 rfl dX7_restore_42 ?_
      refine k_iconst (v := (nI 0)) hX rfl dX7_restore_45 ?_
      refine k_ald hX ia_219 dX7_restore_46 (fun v2 => ?_)
      exact k_iret hX dX7_restore_47
    refine k_aload_n hX (i := 0) rfl rfl dX7_restore_23 ?_
    refine k_get hX io_218 fl_X7_7 rfl dX7_restore_24 ?_
    refine k_iload_n hX (i := 1) rfl rfl dX7_restore_27 ?_
    refine k_aload_n hX (i := 0) rfl rfl dX7_restore_28 ?_
    refine k_get hX io_218 fl_X7_17 rfl dX7_restore_29 ?_
    refine k_iload_n hX (i := 1) rfl rfl dX7_restore_32 ?_
    refine k_ald hX ia_221 dX7_restore_33 (fun v3 => ?_)
    refine k_ast hX locM ia_219 dX7_restore_34 (fun M4 => ?_)
    refine k_iinc (v := x1 + nI 1) (L' := [some (.ref (ad 218)), some (.int (x1 + nI 1))]) hX (i := 1) rfl rfl (by decide) rfl dX7_restore_35 ?_
    refine k_goto (tgt := 16) hX dX7_restore_38 (by decide) ?_
    exact ih (x1 + nI 1) M4 ⟨rfl, rfl, trivial⟩
set_option maxHeartbeats 4000000 in
set_option maxRecDepth 100000 in
theorem w_X7_restore {l : Launch} {G : GL} {ad : Nat → Nat} {MM : Mem} {X : CT} (hX : Cx l { frames := 1, cells := 0, slots := 0, locals := 21 } cX7_restore RX7 2 (some .int) G ad X) {M : Mem} : KF l { frames := 1, cells := 0, slots := 0, locals := 21 } 2 G ad (EM G ad MM) (QP PostI G ad (EM G ad MM)) X (f_X7_restore M) [some (.ref (ad 218)), none] 0 [] M := by
  unfold f_X7_restore
  refine k_aload_n hX (i := 0) rfl rfl dX7_restore_0 ?_
  refine k_get hX io_218 fl_X7_258 rfl dX7_restore_1 ?_
  refine k_if_ne (tgt := 10) hX dX7_restore_4 (by decide) (fun b1 => ?_) (fun b1 => ?_)
  · refine k_aload_n hX (i := 0) rfl rfl dX7_restore_10 ?_
    refine k_callVV (vs := []) hX (fun _ h9 => m_X7_record hX.2.2.2.2.2.2.1  h9) io_218 rfl ml_X7_191 ⟨Nat.le_of_ble_eq_true rfl, Nat.le_of_ble_eq_true rfl⟩ rfl rfl (Nat.le_of_ble_eq_true rfl) dX7_restore_11 (fun q2 => ?_)
    refine k_iconst (v := (nI 0)) hX rfl dX7_restore_14 ?_
    refine k_istore_n (L' := [some (.ref (ad 218)), some (.int (nI 0))]) hX (i := 1) rfl (by decide) rfl dX7_restore_15 ?_
    exact w_X7_restore_16 hX fuelN (nI 0) q2.2 ⟨rfl, rfl, trivial⟩
  refine k_bipush (v := (-5)) hX rfl dX7_restore_7 ?_
  exact k_iret hX dX7_restore_9
set_option maxRecDepth 100000 in
theorem m_X7_restore {l : Launch} {G : GL} {ad : Nat → Nat} {MM : Mem} (hAd : AdOK G ad) {M : Mem} {r : Rv} (h : f_X7_restore M = some r) : Ct PostI l G ad (EM G ad MM) yX7_restore cX7_restore 2 (some .int) 1 21 [.ref (ad 218)] M r := ct_of' hAd (by decide +kernel) (List.forall_mem_cons.mpr ⟨rfl, (fun _ h => absurd h List.not_mem_nil)⟩) (Nat.le_of_ble_eq_true rfl) (L := [some (.ref (ad 218)), none]) rfl (fun _ hX => w_X7_restore hX) h
set_option maxHeartbeats 4000000 in
set_option maxRecDepth 100000 in
theorem w_X7_areTrue_41 {l : Launch} {G : GL} {ad : Nat → Nat} {MM : Mem} {X : CT} (hX : Cx l { frames := 4, cells := 0, slots := 0, locals := 94 } cX7_areTrue RX7 4 (some .boolean) G ad X) {k4 : Int32 → Int32 → Int32 → Mem → Option Rv} (hk4 : ∀ (x1 : Int32) (x2 : Int32) (x3 : Int32) (M : Mem) {L : List (Option Value)}, lsub [some (.ref (ad 218)), some (.int x1), some (.int x2), some (.int x3)] L → KF l { frames := 4, cells := 0, slots := 0, locals := 94 } 4 G ad (EM G ad MM) (QP PostI G ad (EM G ad MM)) X (k4 x1 x2 x3 M) L 4 [] M) : ∀ (x1 : Int32) (x3 : Int32) (s0 : Int32) (M : Mem) {L : List (Option Value)}, lsub [some (.ref (ad 218)), some (.int x1), none, some (.int x3)] L → KF l { frames := 4, cells := 0, slots := 0, locals := 94 } 4 G ad (EM G ad MM) (QP PostI G ad (EM G ad MM)) X (f_X7_areTrue_41 k4 x1 x3 s0 M) L 41 [.int s0] M := by
  intro x1 x3 s0 M L hL
  unfold f_X7_areTrue_41
  refine KF.locals (lsub_le hL) ?_
  refine k_istore_n (L' := [some (.ref (ad 218)), some (.int x1), some (.int s0), some (.int x3)]) hX (i := 2) rfl (by decide) rfl dX7_areTrue_41 ?_
  refine k_iinc (v := x3 + nI 1) (L' := [some (.ref (ad 218)), some (.int x1), some (.int s0), some (.int (x3 + nI 1))]) hX (i := 3) rfl rfl (by decide) rfl dX7_areTrue_42 ?_
  refine k_goto (tgt := 4) hX dX7_areTrue_45 (by decide) ?_
  exact hk4 x1 s0 (x3 + nI 1) M ⟨rfl, rfl, rfl, rfl, trivial⟩
set_option maxHeartbeats 4000000 in
set_option maxRecDepth 100000 in
theorem w_X7_areTrue_40 {l : Launch} {G : GL} {ad : Nat → Nat} {MM : Mem} {X : CT} (hX : Cx l { frames := 4, cells := 0, slots := 0, locals := 94 } cX7_areTrue RX7 4 (some .boolean) G ad X) {k4 : Int32 → Int32 → Int32 → Mem → Option Rv} (hk4 : ∀ (x1 : Int32) (x2 : Int32) (x3 : Int32) (M : Mem) {L : List (Option Value)}, lsub [some (.ref (ad 218)), some (.int x1), some (.int x2), some (.int x3)] L → KF l { frames := 4, cells := 0, slots := 0, locals := 94 } 4 G ad (EM G ad MM) (QP PostI G ad (EM G ad MM)) X (k4 x1 x2 x3 M) L 4 [] M) : ∀ (x1 : Int32) (x3 : Int32) (M : Mem) {L : List (Option Value)}, lsub [some (.ref (ad 218)), some (.int x1), none, some (.int x3)] L → KF l { frames := 4, cells := 0, slots := 0, locals := 94 } 4 G ad (EM G ad MM) (QP PostI G ad (EM G ad MM)) X (f_X7_areTrue_40 k4 x1 x3 M) L 40 [] M := by
  intro x1 x3 M L hL
  unfold f_X7_areTrue_40
  refine KF.locals (lsub_le hL) ?_
  refine k_iconst (v := (nI 0)) hX rfl dX7_areTrue_40 ?_
  exact w_X7_areTrue_41 hX hk4 x1 x3 (nI 0) M ⟨rfl, rfl, rfl, trivial⟩
set_option maxHeartbeats 4000000 in
set_option maxRecDepth 100000 in
theorem w_X7_areTrue_4 {l : Launch} {G : GL} {ad : Nat → Nat} {MM : Mem} {X : CT} (hX : Cx l { frames := 4, cells := 0, slots := 0, locals := 94 } cX7_areTrue RX7 4 (some .boolean) G ad X) : ∀ (n : Nat), ∀ (x1 : Int32) (x2 : Int32) (x3 : Int32) (M : Mem) {L : List (Option Value)}, lsub [some (.ref (ad 218)), some (.int x1), some (.int x2), some (.int x3)] L → KF l { frames := 4, cells := 0, slots := 0, locals := 94 } 4 G ad (EM G ad MM) (QP PostI G ad (EM G ad MM)) X (f_X7_areTrue_4 n x1 x2 x3 M) L 4 [] M := by
  intro n
  induction n with
  | zero =>
    intro x1 x2 x3 M L hL
    exact KF.none'
  | succ n ih =>
    intro x1 x2 x3 M L hL
    rw [f_X7_areTrue_4]
    refine KF.locals (lsub_le hL) ?_
    refine k_iload_n hX (i := 3) rfl rfl dX7_areTrue_4 ?_
    refine k_aload_n hX (i := 0) rfl rfl dX7_areTrue_5 ?_
    refine k_get hX io_218 fl_X7_7 rfl dX7_areTrue_6 ?_
    refine k_iload_n hX (i := 1) rfl rfl dX7_areTrue_9 ?_
    refine k_callSI (vs := [.int x1]) hX (fun _ h9 => m_X7_w hX.2.2.2.2.2.2.1  h9) ml_X7_74 ⟨Nat.le_of_ble_eq_true rfl, Nat.le_of_ble_eq_true rfl⟩ rfl rfl (Nat.le_of_ble_eq_true rfl) dX7_areTrue_10 (fun q1 => ?_)
    refine k_iconst (v := (nI 5)) hX rfl dX7_areTrue_13 ?_
    refine k_iadd hX dX7_areTrue_14 ?_
    refine k_ald hX ia_219 dX7_areTrue_15 (fun v2 => ?_)
    refine k_icmp_ge (tgt := 48) hX dX7_areTrue_16 (by decide) (fun b3 => ?_) (fun b3 => ?_)
    · refine k_iload_n hX (i := 2) rfl rfl dX7_areTrue_48 ?_
      exact k_zret hX dX7_areTrue_49
    refine k_iload_n hX (i := 2) rfl rfl dX7_areTrue_19 ?_
    refine k_if_eq (tgt := 40) hX dX7_areTrue_20 (by decide) (fun b4 => ?_) (fun b4 => ?_)
    · exact w_X7_areTrue_40 hX ih x1 x3 q1.2 ⟨rfl, rfl, rfl, trivial⟩
    refine k_aload_n hX (i := 0) rfl rfl dX7_areTrue_23 ?_
    refine k_aload_n hX (i := 0) rfl rfl dX7_areTrue_24 ?_
    refine k_iload_n hX (i := 1) rfl rfl dX7_areTrue_25 ?_
    refine k_iload_n hX (i := 3) rfl rfl dX7_areTrue_26 ?_
    refine k_callVI (vs := [.int x1, .int x3]) hX (fun _ h9 => m_X7_loadAlone hX.2.2.2.2.2.2.1  h9) io_218 rfl ml_X7_165 ⟨Nat.le_of_ble_eq_true rfl, Nat.le_of_ble_eq_true rfl⟩ rfl rfl (Nat.le_of_ble_eq_true rfl) dX7_areTrue_27 (fun q5 => ?_)
    refine k_callVI (vs := [.int q5.1]) hX (fun _ h9 => m_X7_isTrue hX.2.2.2.2.2.2.1  h9) io_218 rfl ml_X7_197 ⟨Nat.le_of_ble_eq_true rfl, Nat.le_of_ble_eq_true rfl⟩ rfl rfl (Nat.le_of_ble_eq_true rfl) dX7_areTrue_30 (fun q6 => ?_)
    refine k_if_eq (tgt := 40) hX dX7_areTrue_33 (by decide) (fun b7 => ?_) (fun b7 => ?_)
    · exact w_X7_areTrue_40 hX ih x1 x3 q6.2 ⟨rfl, rfl, rfl, trivial⟩
    refine k_iconst (v := (nI 1)) hX rfl dX7_areTrue_36 ?_
    refine k_goto (tgt := 41) hX dX7_areTrue_37 (by decide) ?_
    exact w_X7_areTrue_41 hX ih x1 x3 (nI 1) q6.2 ⟨rfl, rfl, rfl, trivial⟩
set_option maxHeartbeats 4000000 in
set_option maxRecDepth 100000 in
theorem w_X7_areTrue {l : Launch} {G : GL} {ad : Nat → Nat} {MM : Mem} {X : CT} (hX : Cx l { frames := 4, cells := 0, slots := 0, locals := 94 } cX7_areTrue RX7 4 (some .boolean) G ad X) {p1 : Int32} {M : Mem} : KF l { frames := 4, cells := 0, slots := 0, locals := 94 } 4 G ad (EM G ad MM) (QP PostI G ad (EM G ad MM)) X (f_X7_areTrue p1 M) [some (.ref (ad 218)), some (.int p1), none, none] 0 [] M := by
  unfold f_X7_areTrue
  refine k_iconst (v := (nI 1)) hX rfl dX7_areTrue_0 ?_
  refine k_istore_n (L' := [some (.ref (ad 218)), some (.int p1), some (.int (nI 1)), none]) hX (i := 2) rfl (by decide) rfl dX7_areTrue_1 ?_
  refine k_iconst (v := (nI 0)) hX rfl dX7_areTrue_2 ?_
  refine k_istore_n (L' := [some (.ref (ad 218)), some (.int p1), some (.int (nI 1)), some (.int (nI 0))]) hX (i := 3) rfl (by decide) rfl dX7_areTrue_3 ?_
  exact w_X7_areTrue_4 hX fuelN p1 (nI 1) (nI 0) M ⟨rfl, rfl, rfl, rfl, trivial⟩
set_option maxRecDepth 100000 in
theorem m_X7_areTrue {l : Launch} {G : GL} {ad : Nat → Nat} {MM : Mem} (hAd : AdOK G ad) {p1 : Int32} {M : Mem} {r : Rv} (h : f_X7_areTrue p1 M = some r) : Ct PostI l G ad (EM G ad MM) yX7_areTrue cX7_areTrue 4 (some .boolean) 4 94 [.ref (ad 218), .int p1] M r := ct_of' hAd (by decide +kernel) (List.forall_mem_cons.mpr ⟨rfl, (List.forall_mem_cons.mpr ⟨rfl, (fun _ h => absurd h List.not_mem_nil)⟩)⟩) (Nat.le_of_ble_eq_true rfl) (L := [some (.ref (ad 218)), some (.int p1), none, none]) rfl (fun _ hX => w_X7_areTrue hX) h
set_option maxHeartbeats 4000000 in
set_option maxRecDepth 100000 in
theorem w_X7_sizes_4 {l : Launch} {G : GL} {ad : Nat → Nat} {MM : Mem} {X : CT} (hX : Cx l { frames := 4, cells := 0, slots := 0, locals := 94 } cX7_sizes RX7 4 (some .int) G ad X) : ∀ (n : Nat), ∀ (x1 : Int32) (x2 : Int32) (x3 : Int32) (M : Mem) {L : List (Option Value)}, lsub [some (.ref (ad 218)), some (.int x1), some (.int x2), some (.int x3)] L → KF l { frames := 4, cells := 0, slots := 0, locals := 94 } 4 G ad (EM G ad MM) (QP PostI G ad (EM G ad MM)) X (f_X7_sizes_4 n x1 x2 x3 M) L 4 [] M := by
  intro n
  induction n with
  | zero =>
    intro x1 x2 x3 M L hL
    exact KF.none'
  | succ n ih =>
    intro x1 x2 x3 M L hL
    rw [f_X7_sizes_4]
    refine KF.locals (lsub_le hL) ?_
    refine k_iload_n hX (i := 3) rfl rfl dX7_sizes_4 ?_
    refine k_aload_n hX (i := 0) rfl rfl dX7_sizes_5 ?_
    refine k_get hX io_218 fl_X7_7 rfl dX7_sizes_6 ?_
    refine k_iload_n hX (i := 1) rfl rfl dX7_sizes_9 ?_
    refine k_callSI (vs := [.int x1]) hX (fun _ h9 => m_X7_w hX.2.2.2.2.2.2.1  h9) ml_X7_74 ⟨Nat.le_of_ble_eq_true rfl, Nat.le_of_ble_eq_true rfl⟩ rfl rfl (Nat.le_of_ble_eq_true rfl) dX7_sizes_10 (fun q1 => ?_)
    refine k_iconst (v := (nI 5)) hX rfl dX7_sizes_13 ?_
    refine k_iadd hX dX7_sizes_14 ?_
    refine k_ald hX ia_219 dX7_sizes_15 (fun v2 => ?_)
    refine k_icmp_ge (tgt := 39) hX dX7_sizes_16 (by decide) (fun b3 => ?_) (fun b3 => ?_)
    · refine k_iload_n hX (i := 2) rfl rfl dX7_sizes_39 ?_
      exact k_iret hX dX7_sizes_40
    refine k_iload_n hX (i := 2) rfl rfl dX7_sizes_19 ?_
    refine k_aload_n hX (i := 0) rfl rfl dX7_sizes_20 ?_
    refine k_get hX io_218 fl_X7_29 rfl dX7_sizes_21 ?_
    refine k_aload_n hX (i := 0) rfl rfl dX7_sizes_24 ?_
    refine k_iload_n hX (i := 1) rfl rfl dX7_sizes_25 ?_
    refine k_iload_n hX (i := 3) rfl rfl dX7_sizes_26 ?_
    refine k_callVI (vs := [.int x1, .int x3]) hX (fun _ h9 => m_X7_loadAlone hX.2.2.2.2.2.2.1  h9) io_218 rfl ml_X7_165 ⟨Nat.le_of_ble_eq_true rfl, Nat.le_of_ble_eq_true rfl⟩ rfl rfl (Nat.le_of_ble_eq_true rfl) dX7_sizes_27 (fun q4 => ?_)
    refine k_ald hX ia_225 dX7_sizes_30 (fun v5 => ?_)
    refine k_iadd hX dX7_sizes_31 ?_
    refine k_istore_n (L' := [some (.ref (ad 218)), some (.int x1), some (.int (x2 + v5)), some (.int x3)]) hX (i := 2) rfl (by decide) rfl dX7_sizes_32 ?_
    refine k_iinc (v := x3 + nI 1) (L' := [some (.ref (ad 218)), some (.int x1), some (.int (x2 + v5)), some (.int (x3 + nI 1))]) hX (i := 3) rfl rfl (by decide) rfl dX7_sizes_33 ?_
    refine k_goto (tgt := 4) hX dX7_sizes_36 (by decide) ?_
    exact ih x1 (x2 + v5) (x3 + nI 1) q4.2 ⟨rfl, rfl, rfl, rfl, trivial⟩
set_option maxHeartbeats 4000000 in
set_option maxRecDepth 100000 in
theorem w_X7_sizes {l : Launch} {G : GL} {ad : Nat → Nat} {MM : Mem} {X : CT} (hX : Cx l { frames := 4, cells := 0, slots := 0, locals := 94 } cX7_sizes RX7 4 (some .int) G ad X) {p1 : Int32} {M : Mem} : KF l { frames := 4, cells := 0, slots := 0, locals := 94 } 4 G ad (EM G ad MM) (QP PostI G ad (EM G ad MM)) X (f_X7_sizes p1 M) [some (.ref (ad 218)), some (.int p1), none, none] 0 [] M := by
  unfold f_X7_sizes
  refine k_iconst (v := (nI 0)) hX rfl dX7_sizes_0 ?_
  refine k_istore_n (L' := [some (.ref (ad 218)), some (.int p1), some (.int (nI 0)), none]) hX (i := 2) rfl (by decide) rfl dX7_sizes_1 ?_
  refine k_iconst (v := (nI 0)) hX rfl dX7_sizes_2 ?_
  refine k_istore_n (L' := [some (.ref (ad 218)), some (.int p1), some (.int (nI 0)), some (.int (nI 0))]) hX (i := 3) rfl (by decide) rfl dX7_sizes_3 ?_
  exact w_X7_sizes_4 hX fuelN p1 (nI 0) (nI 0) M ⟨rfl, rfl, rfl, rfl, trivial⟩
set_option maxRecDepth 100000 in
theorem m_X7_sizes {l : Launch} {G : GL} {ad : Nat → Nat} {MM : Mem} (hAd : AdOK G ad) {p1 : Int32} {M : Mem} {r : Rv} (h : f_X7_sizes p1 M = some r) : Ct PostI l G ad (EM G ad MM) yX7_sizes cX7_sizes 4 (some .int) 4 94 [.ref (ad 218), .int p1] M r := ct_of' hAd (by decide +kernel) (List.forall_mem_cons.mpr ⟨rfl, (List.forall_mem_cons.mpr ⟨rfl, (fun _ h => absurd h List.not_mem_nil)⟩)⟩) (Nat.le_of_ble_eq_true rfl) (L := [some (.ref (ad 218)), some (.int p1), none, none]) rfl (fun _ hX => w_X7_sizes hX) h
set_option maxHeartbeats 4000000 in
set_option maxRecDepth 100000 in
theorem w_X7_wish_148 {l : Launch} {G : GL} {ad : Nat → Nat} {MM : Mem} {X : CT} (hX : Cx l { frames := 5, cells := 0, slots := 0, locals := 117 } cX7_wish RX7 4 (some .int) G ad X) : ∀ (s0 : Int32) (M : Mem) {L : List (Option Value)}, lsub [none, none, none, none] L → KF l { frames := 5, cells := 0, slots := 0, locals := 117 } 4 G ad (EM G ad MM) (QP PostI G ad (EM G ad MM)) X (f_X7_wish_148 s0 M) L 148 [.int s0] M := by
  intro s0 M L hL
  unfold f_X7_wish_148
  refine KF.locals (lsub_le hL) ?_
  exact k_iret hX dX7_wish_148
set_option maxHeartbeats 4000000 in
set_option maxRecDepth 100000 in
theorem w_X7_wish {l : Launch} {G : GL} {ad : Nat → Nat} {MM : Mem} {X : CT} (hX : Cx l { frames := 5, cells := 0, slots := 0, locals := 117 } cX7_wish RX7 4 (some .int) G ad X) {p1 : Int32} {p2 : Int32} {M : Mem} : KF l { frames := 5, cells := 0, slots := 0, locals := 117 } 4 G ad (EM G ad MM) (QP PostI G ad (EM G ad MM)) X (f_X7_wish p1 p2 M) [some (.ref (ad 218)), some (.int p1), some (.int p2), none] 0 [] M := by
  unfold f_X7_wish
  refine k_aload_n hX (i := 0) rfl rfl dX7_wish_0 ?_
  refine k_iload_n hX (i := 1) rfl rfl dX7_wish_1 ?_
  refine k_callVI (vs := [.int p1]) hX (fun _ h9 => m_X7_isThere hX.2.2.2.2.2.2.1  h9) io_218 rfl ml_X7_174 ⟨Nat.le_of_ble_eq_true rfl, Nat.le_of_ble_eq_true rfl⟩ rfl rfl (Nat.le_of_ble_eq_true rfl) dX7_wish_2 (fun q1 => ?_)
  refine k_if_ne (tgt := 10) hX dX7_wish_5 (by decide) (fun b2 => ?_) (fun b2 => ?_)
  · refine k_iload_n hX (i := 1) rfl rfl dX7_wish_10 ?_
    refine k_callSI (vs := [.int p1]) hX (fun _ h9 => m_X7_w hX.2.2.2.2.2.2.1  h9) ml_X7_74 ⟨Nat.le_of_ble_eq_true rfl, Nat.le_of_ble_eq_true rfl⟩ rfl rfl (Nat.le_of_ble_eq_true rfl) dX7_wish_11 (fun q3 => ?_)
    refine k_istore_n (L' := [some (.ref (ad 218)), some (.int p1), some (.int p2), some (.int q3.1)]) hX (i := 3) rfl (by decide) rfl dX7_wish_14 ?_
    refine k_iload_n hX (i := 2) rfl rfl dX7_wish_15 ?_
    refine KF.ite (fun b4 => ?_) (fun b4 => ?_)
    · refine k_tabIn (tgt := 68) hX b4 dX7_wish_16 (by decide) (by decide) rfl (by decide) ?_
      refine k_aload_n hX (i := 0) rfl rfl dX7_wish_68 ?_
      refine k_get hX io_218 fl_X7_7 rfl dX7_wish_69 ?_
      refine k_iload_n hX (i := 3) rfl rfl dX7_wish_72 ?_
      refine k_iconst (v := (nI 1)) hX rfl dX7_wish_73 ?_
      refine k_iadd hX dX7_wish_74 ?_
      refine k_ald hX ia_219 dX7_wish_75 (fun v5 => ?_)
      exact k_iret hX dX7_wish_76
    refine KF.ite (fun b6 => ?_) (fun b6 => ?_)
    · refine k_tabIn (tgt := 77) hX b6 dX7_wish_16 (by decide) (by decide) rfl (by decide) ?_
      refine k_aload_n hX (i := 0) rfl rfl dX7_wish_77 ?_
      refine k_get hX io_218 fl_X7_7 rfl dX7_wish_78 ?_
      refine k_iload_n hX (i := 3) rfl rfl dX7_wish_81 ?_
      refine k_iconst (v := (nI 5)) hX rfl dX7_wish_82 ?_
      refine k_iadd hX dX7_wish_83 ?_
      refine k_ald hX ia_219 dX7_wish_84 (fun v7 => ?_)
      exact k_iret hX dX7_wish_85
    refine KF.ite (fun b8 => ?_) (fun b8 => ?_)
    · refine k_tabIn (tgt := 86) hX b8 dX7_wish_16 (by decide) (by decide) rfl (by decide) ?_
      refine k_aload_n hX (i := 0) rfl rfl dX7_wish_86 ?_
      refine k_iload_n hX (i := 1) rfl rfl dX7_wish_87 ?_
      refine k_iconst (v := (nI 0)) hX rfl dX7_wish_88 ?_
      refine k_callVI (vs := [.int p1, .int (nI 0)]) hX (fun _ h9 => m_X7_partsThat hX.2.2.2.2.2.2.1  h9) io_218 rfl ml_X7_159 ⟨Nat.le_of_ble_eq_true rfl, Nat.le_of_ble_eq_true rfl⟩ rfl rfl (Nat.le_of_ble_eq_true rfl) dX7_wish_89 (fun q9 => ?_)
      exact k_iret hX dX7_wish_92
    refine KF.ite (fun b10 => ?_) (fun b10 => ?_)
    · refine k_tabIn (tgt := 93) hX b10 dX7_wish_16 (by decide) (by decide) rfl (by decide) ?_
      refine k_aload_n hX (i := 0) rfl rfl dX7_wish_93 ?_
      refine k_iload_n hX (i := 1) rfl rfl dX7_wish_94 ?_
      refine k_iconst (v := (nI 1)) hX rfl dX7_wish_95 ?_
      refine k_callVI (vs := [.int p1, .int (nI 1)]) hX (fun _ h9 => m_X7_partsThat hX.2.2.2.2.2.2.1  h9) io_218 rfl ml_X7_159 ⟨Nat.le_of_ble_eq_true rfl, Nat.le_of_ble_eq_true rfl⟩ rfl rfl (Nat.le_of_ble_eq_true rfl) dX7_wish_96 (fun q11 => ?_)
      exact k_iret hX dX7_wish_99
    refine KF.ite (fun b12 => ?_) (fun b12 => ?_)
    · refine k_tabIn (tgt := 100) hX b12 dX7_wish_16 (by decide) (by decide) rfl (by decide) ?_
      refine k_aload_n hX (i := 0) rfl rfl dX7_wish_100 ?_
      refine k_get hX io_218 fl_X7_7 rfl dX7_wish_101 ?_
      refine k_iload_n hX (i := 3) rfl rfl dX7_wish_104 ?_
      refine k_iconst (v := (nI 2)) hX rfl dX7_wish_105 ?_
      refine k_iadd hX dX7_wish_106 ?_
      refine k_ald hX ia_219 dX7_wish_107 (fun v13 => ?_)
      exact k_iret hX dX7_wish_108
    refine KF.ite (fun b14 => ?_) (fun b14 => ?_)
    · refine k_tabIn (tgt := 109) hX b14 dX7_wish_16 (by decide) (by decide) rfl (by decide) ?_
      refine k_aload_n hX (i := 0) rfl rfl dX7_wish_109 ?_
      refine k_get hX io_218 fl_X7_7 rfl dX7_wish_110 ?_
      refine k_iload_n hX (i := 3) rfl rfl dX7_wish_113 ?_
      refine k_iconst (v := (nI 3)) hX rfl dX7_wish_114 ?_
      refine k_iadd hX dX7_wish_115 ?_
      refine k_ald hX ia_219 dX7_wish_116 (fun v15 => ?_)
      exact k_iret hX dX7_wish_117
    refine KF.ite (fun b16 => ?_) (fun b16 => ?_)
    · refine k_tabIn (tgt := 118) hX b16 dX7_wish_16 (by decide) (by decide) rfl (by decide) ?_
      refine k_aload_n hX (i := 0) rfl rfl dX7_wish_118 ?_
      refine k_iload_n hX (i := 1) rfl rfl dX7_wish_119 ?_
      refine k_callVI (vs := [.int p1]) hX (fun _ h9 => m_X7_verdict hX.2.2.2.2.2.2.1  h9) io_218 rfl ml_X7_162 ⟨Nat.le_of_ble_eq_true rfl, Nat.le_of_ble_eq_true rfl⟩ rfl rfl (Nat.le_of_ble_eq_true rfl) dX7_wish_120 (fun q17 => ?_)
      refine k_iconst (v := (nI 2)) hX rfl dX7_wish_123 ?_
      refine k_icmp_ge (tgt := 135) hX dX7_wish_124 (by decide) (fun b18 => ?_) (fun b18 => ?_)
      · refine k_aload_n hX (i := 0) rfl rfl dX7_wish_135 ?_
        refine k_iload_n hX (i := 1) rfl rfl dX7_wish_136 ?_
        refine k_callVI (vs := [.int p1]) hX (fun _ h9 => m_X7_areTrue hX.2.2.2.2.2.2.1  h9) io_218 rfl ml_X7_261 ⟨Nat.le_of_ble_eq_true rfl, Nat.le_of_ble_eq_true rfl⟩ rfl rfl (Nat.le_of_ble_eq_true rfl) dX7_wish_137 (fun q19 => ?_)
        refine k_if_eq (tgt := 147) hX dX7_wish_140 (by decide) (fun b20 => ?_) (fun b20 => ?_)
        · refine k_iconst (v := (nI 0)) hX rfl dX7_wish_147 ?_
          exact w_X7_wish_148 hX (nI 0) q19.2 trivial
        refine k_iconst (v := (nI 1)) hX rfl dX7_wish_143 ?_
        refine k_goto (tgt := 148) hX dX7_wish_144 (by decide) ?_
        exact w_X7_wish_148 hX (nI 1) q19.2 trivial
      refine k_aload_n hX (i := 0) rfl rfl dX7_wish_127 ?_
      refine k_iload_n hX (i := 1) rfl rfl dX7_wish_128 ?_
      refine k_callVI (vs := [.int p1]) hX (fun _ h9 => m_X7_verdict hX.2.2.2.2.2.2.1  h9) io_218 rfl ml_X7_162 ⟨Nat.le_of_ble_eq_true rfl, Nat.le_of_ble_eq_true rfl⟩ rfl rfl (Nat.le_of_ble_eq_true rfl) dX7_wish_129 (fun q21 => ?_)
      refine k_goto (tgt := 148) hX dX7_wish_132 (by decide) ?_
      exact w_X7_wish_148 hX q21.1 q21.2 trivial
    refine KF.ite (fun b22 => ?_) (fun b22 => ?_)
    · refine k_tabIn (tgt := 149) hX b22 dX7_wish_16 (by decide) (by decide) rfl (by decide) ?_
      refine k_aload_n hX (i := 0) rfl rfl dX7_wish_149 ?_
      refine k_iload_n hX (i := 1) rfl rfl dX7_wish_150 ?_
      refine k_callVI (vs := [.int p1]) hX (fun _ h9 => m_X7_sizes hX.2.2.2.2.2.2.1  h9) io_218 rfl ml_X7_264 ⟨Nat.le_of_ble_eq_true rfl, Nat.le_of_ble_eq_true rfl⟩ rfl rfl (Nat.le_of_ble_eq_true rfl) dX7_wish_151 (fun q23 => ?_)
      exact k_iret hX dX7_wish_154
    refine KF.ite (fun b24 => ?_) (fun b24 => ?_)
    · refine k_tabIn (tgt := 155) hX b24 dX7_wish_16 (by decide) (by decide) rfl (by decide) ?_
      refine k_aload_n hX (i := 0) rfl rfl dX7_wish_155 ?_
      refine k_get hX io_218 fl_X7_7 rfl dX7_wish_156 ?_
      refine k_iload_n hX (i := 3) rfl rfl dX7_wish_159 ?_
      refine k_iconst (v := (nI 4)) hX rfl dX7_wish_160 ?_
      refine k_iadd hX dX7_wish_161 ?_
      refine k_ald hX ia_219 dX7_wish_162 (fun v25 => ?_)
      exact k_iret hX dX7_wish_163
    replace b4 := ne_toInt (k := 0) b4 (by decide)
    replace b6 := ne_toInt (k := 1) b6 (by decide)
    replace b8 := ne_toInt (k := 2) b8 (by decide)
    replace b10 := ne_toInt (k := 3) b10 (by decide)
    replace b12 := ne_toInt (k := 4) b12 (by decide)
    replace b14 := ne_toInt (k := 5) b14 (by decide)
    replace b16 := ne_toInt (k := 6) b16 (by decide)
    replace b22 := ne_toInt (k := 7) b22 (by decide)
    replace b24 := ne_toInt (k := 8) b24 (by decide)
    refine k_tabOut (tgt := 164) hX dX7_wish_16 (by omega) (by decide) ?_
    refine k_bipush (v := (-2)) hX rfl dX7_wish_164 ?_
    exact k_iret hX dX7_wish_166
  refine k_iconst (v := (-1)) hX rfl dX7_wish_8 ?_
  exact k_iret hX dX7_wish_9
set_option maxRecDepth 100000 in
theorem m_X7_wish {l : Launch} {G : GL} {ad : Nat → Nat} {MM : Mem} (hAd : AdOK G ad) {p1 : Int32} {p2 : Int32} {M : Mem} {r : Rv} (h : f_X7_wish p1 p2 M = some r) : Ct PostI l G ad (EM G ad MM) yX7_wish cX7_wish 4 (some .int) 5 117 [.ref (ad 218), .int p1, .int p2] M r := ct_of' hAd (by decide +kernel) (List.forall_mem_cons.mpr ⟨rfl, (List.forall_mem_cons.mpr ⟨rfl, (List.forall_mem_cons.mpr ⟨rfl, (fun _ h => absurd h List.not_mem_nil)⟩)⟩)⟩) (Nat.le_of_ble_eq_true rfl) (L := [some (.ref (ad 218)), some (.int p1), some (.int p2), none]) rfl (fun _ hX => w_X7_wish hX) h
set_option maxHeartbeats 4000000 in
set_option maxRecDepth 100000 in
theorem w_X7_isPart_34 {l : Launch} {G : GL} {ad : Nat → Nat} {MM : Mem} {X : CT} (hX : Cx l { frames := 2, cells := 0, slots := 0, locals := 43 } cX7_isPart RX7 3 (some .boolean) G ad X) : ∀ (s0 : Int32) (M : Mem) {L : List (Option Value)}, lsub [none, none, none] L → KF l { frames := 2, cells := 0, slots := 0, locals := 43 } 3 G ad (EM G ad MM) (QP PostI G ad (EM G ad MM)) X (f_X7_isPart_34 s0 M) L 34 [.int s0] M := by
  intro s0 M L hL
  unfold f_X7_isPart_34
  refine KF.locals (lsub_le hL) ?_
  exact k_zret hX dX7_isPart_34
set_option maxHeartbeats 4000000 in
set_option maxRecDepth 100000 in
theorem w_X7_isPart_33 {l : Launch} {G : GL} {ad : Nat → Nat} {MM : Mem} {X : CT} (hX : Cx l { frames := 2, cells := 0, slots := 0, locals := 43 } cX7_isPart RX7 3 (some .boolean) G ad X) : ∀ (M : Mem) {L : List (Option Value)}, lsub [none, none, none] L → KF l { frames := 2, cells := 0, slots := 0, locals := 43 } 3 G ad (EM G ad MM) (QP PostI G ad (EM G ad MM)) X (f_X7_isPart_33 M) L 33 [] M := by
  intro M L hL
  unfold f_X7_isPart_33
  refine KF.locals (lsub_le hL) ?_
  refine k_iconst (v := (nI 0)) hX rfl dX7_isPart_33 ?_
  exact w_X7_isPart_34 hX (nI 0) M trivial
set_option maxHeartbeats 4000000 in
set_option maxRecDepth 100000 in
theorem w_X7_isPart {l : Launch} {G : GL} {ad : Nat → Nat} {MM : Mem} {X : CT} (hX : Cx l { frames := 2, cells := 0, slots := 0, locals := 43 } cX7_isPart RX7 3 (some .boolean) G ad X) {p1 : Int32} {p2 : Int32} {M : Mem} : KF l { frames := 2, cells := 0, slots := 0, locals := 43 } 3 G ad (EM G ad MM) (QP PostI G ad (EM G ad MM)) X (f_X7_isPart p1 p2 M) [some (.ref (ad 218)), some (.int p1), some (.int p2)] 0 [] M := by
  unfold f_X7_isPart
  refine k_aload_n hX (i := 0) rfl rfl dX7_isPart_0 ?_
  refine k_iload_n hX (i := 1) rfl rfl dX7_isPart_1 ?_
  refine k_callVI (vs := [.int p1]) hX (fun _ h9 => m_X7_isThere hX.2.2.2.2.2.2.1  h9) io_218 rfl ml_X7_174 ⟨Nat.le_of_ble_eq_true rfl, Nat.le_of_ble_eq_true rfl⟩ rfl rfl (Nat.le_of_ble_eq_true rfl) dX7_isPart_2 (fun q1 => ?_)
  refine k_if_eq (tgt := 33) hX dX7_isPart_5 (by decide) (fun b2 => ?_) (fun b2 => ?_)
  · exact w_X7_isPart_33 hX q1.2 trivial
  refine k_iload_n hX (i := 2) rfl rfl dX7_isPart_8 ?_
  refine k_iconst (v := (nI 0)) hX rfl dX7_isPart_9 ?_
  refine k_aload_n hX (i := 0) rfl rfl dX7_isPart_10 ?_
  refine k_get hX io_218 fl_X7_7 rfl dX7_isPart_11 ?_
  refine k_iload_n hX (i := 1) rfl rfl dX7_isPart_14 ?_
  refine k_callSI (vs := [.int p1]) hX (fun _ h9 => m_X7_w hX.2.2.2.2.2.2.1  h9) ml_X7_74 ⟨Nat.le_of_ble_eq_true rfl, Nat.le_of_ble_eq_true rfl⟩ rfl rfl (Nat.le_of_ble_eq_true rfl) dX7_isPart_15 (fun q3 => ?_)
  refine k_iconst (v := (nI 5)) hX rfl dX7_isPart_18 ?_
  refine k_iadd hX dX7_isPart_19 ?_
  refine k_ald hX ia_219 dX7_isPart_20 (fun v4 => ?_)
  refine k_iconst (v := (nI 1)) hX rfl dX7_isPart_21 ?_
  refine k_isub hX dX7_isPart_22 ?_
  refine k_callSI (vs := [.int p2, .int (nI 0), .int (v4 - (nI 1))]) hX (fun _ h9 => m_X7_in hX.2.2.2.2.2.2.1  h9) ml_X7_70 ⟨Nat.le_of_ble_eq_true rfl, Nat.le_of_ble_eq_true rfl⟩ rfl rfl (Nat.le_of_ble_eq_true rfl) dX7_isPart_23 (fun q5 => ?_)
  refine k_if_eq (tgt := 33) hX dX7_isPart_26 (by decide) (fun b6 => ?_) (fun b6 => ?_)
  · exact w_X7_isPart_33 hX q5.2 trivial
  refine k_iconst (v := (nI 1)) hX rfl dX7_isPart_29 ?_
  refine k_goto (tgt := 34) hX dX7_isPart_30 (by decide) ?_
  exact w_X7_isPart_34 hX (nI 1) q5.2 trivial
set_option maxRecDepth 100000 in
theorem m_X7_isPart {l : Launch} {G : GL} {ad : Nat → Nat} {MM : Mem} (hAd : AdOK G ad) {p1 : Int32} {p2 : Int32} {M : Mem} {r : Rv} (h : f_X7_isPart p1 p2 M = some r) : Ct PostI l G ad (EM G ad MM) yX7_isPart cX7_isPart 3 (some .boolean) 2 43 [.ref (ad 218), .int p1, .int p2] M r := ct_of' hAd (by decide +kernel) (List.forall_mem_cons.mpr ⟨rfl, (List.forall_mem_cons.mpr ⟨rfl, (List.forall_mem_cons.mpr ⟨rfl, (fun _ h => absurd h List.not_mem_nil)⟩)⟩)⟩) (Nat.le_of_ble_eq_true rfl) (L := [some (.ref (ad 218)), some (.int p1), some (.int p2)]) rfl (fun _ hX => w_X7_isPart hX) h
set_option maxHeartbeats 4000000 in
set_option maxRecDepth 100000 in
theorem w_X7_letterOf_117 {l : Launch} {G : GL} {ad : Nat → Nat} {MM : Mem} {X : CT} (hX : Cx l { frames := 2, cells := 0, slots := 0, locals := 43 } cX7_letterOf RX7 6 (some .int) G ad X) {k5 : Int32 → Int32 → Mem → Option Rv} (hk5 : ∀ (x3 : Int32) (x4 : Int32) (M : Mem) {L : List (Option Value)}, lsub [some (.ref (ad 218)), none, none, some (.int x3), some (.int x4), none] L → KF l { frames := 2, cells := 0, slots := 0, locals := 43 } 6 G ad (EM G ad MM) (QP PostI G ad (EM G ad MM)) X (k5 x3 x4 M) L 5 [] M) : ∀ (x3 : Int32) (x4 : Int32) (x5 : Int32) (M : Mem) {L : List (Option Value)}, lsub [some (.ref (ad 218)), none, none, some (.int x3), some (.int x4), some (.int x5)] L → KF l { frames := 2, cells := 0, slots := 0, locals := 43 } 6 G ad (EM G ad MM) (QP PostI G ad (EM G ad MM)) X (f_X7_letterOf_117 k5 x3 x4 x5 M) L 117 [] M := by
  intro x3 x4 x5 M L hL
  unfold f_X7_letterOf_117
  refine KF.locals (lsub_le hL) ?_
  refine k_aload_n hX (i := 0) rfl rfl dX7_letterOf_117 ?_
  refine k_iload_n hX (i := 3) rfl rfl dX7_letterOf_118 ?_
  refine k_iload hX rfl dX7_letterOf_119 ?_
  refine k_callVI (vs := [.int x3, .int x5]) hX (fun _ h9 => m_X7_child hX.2.2.2.2.2.2.1  h9) io_218 rfl ml_X7_97 ⟨Nat.le_of_ble_eq_true rfl, Nat.le_of_ble_eq_true rfl⟩ rfl rfl (Nat.le_of_ble_eq_true rfl) dX7_letterOf_121 (fun q1 => ?_)
  refine k_istore_n (L' := [some (.ref (ad 218)), none, none, some (.int q1.1), some (.int x4), some (.int x5)]) hX (i := 3) rfl (by decide) rfl dX7_letterOf_124 ?_
  refine k_goto (tgt := 5) hX dX7_letterOf_125 (by decide) ?_
  exact hk5 q1.1 x4 q1.2 ⟨rfl, rfl, rfl, trivial⟩
set_option maxHeartbeats 4000000 in
set_option maxRecDepth 100000 in
theorem w_X7_letterOf_82 {l : Launch} {G : GL} {ad : Nat → Nat} {MM : Mem} {X : CT} (hX : Cx l { frames := 2, cells := 0, slots := 0, locals := 43 } cX7_letterOf RX7 6 (some .int) G ad X) {k5 : Int32 → Int32 → Mem → Option Rv} (hk5 : ∀ (x3 : Int32) (x4 : Int32) (M : Mem) {L : List (Option Value)}, lsub [some (.ref (ad 218)), none, none, some (.int x3), some (.int x4), none] L → KF l { frames := 2, cells := 0, slots := 0, locals := 43 } 6 G ad (EM G ad MM) (QP PostI G ad (EM G ad MM)) X (k5 x3 x4 M) L 5 [] M) : ∀ (x3 : Int32) (x4 : Int32) (x5 : Int32) (M : Mem) {L : List (Option Value)}, lsub [some (.ref (ad 218)), none, none, some (.int x3), some (.int x4), some (.int x5)] L → KF l { frames := 2, cells := 0, slots := 0, locals := 43 } 6 G ad (EM G ad MM) (QP PostI G ad (EM G ad MM)) X (f_X7_letterOf_82 k5 x3 x4 x5 M) L 82 [] M := by
  intro x3 x4 x5 M L hL
  unfold f_X7_letterOf_82
  refine KF.locals (lsub_le hL) ?_
  refine k_aload_n hX (i := 0) rfl rfl dX7_letterOf_82 ?_
  refine k_iload_n hX (i := 3) rfl rfl dX7_letterOf_83 ?_
  refine k_callVI (vs := [.int x3]) hX (fun _ h9 => m_X7_begins hX.2.2.2.2.2.2.1  h9) io_218 rfl ml_X7_94 ⟨Nat.le_of_ble_eq_true rfl, Nat.le_of_ble_eq_true rfl⟩ rfl rfl (Nat.le_of_ble_eq_true rfl) dX7_letterOf_84 (fun q1 => ?_)
  refine k_bipush (v := (nI 40)) hX rfl dX7_letterOf_87 ?_
  refine k_icmp_ne (tgt := 117) hX dX7_letterOf_89 (by decide) (fun b2 => ?_) (fun b2 => ?_)
  · exact w_X7_letterOf_117 hX hk5 x3 x4 x5 q1.2 ⟨rfl, rfl, rfl, rfl, trivial⟩
  refine k_iload hX rfl dX7_letterOf_92 ?_
  refine k_aload_n hX (i := 0) rfl rfl dX7_letterOf_94 ?_
  refine k_get hX io_218 fl_X7_32 rfl dX7_letterOf_95 ?_
  refine k_aload_n hX (i := 0) rfl rfl dX7_letterOf_98 ?_
  refine k_iload_n hX (i := 3) rfl rfl dX7_letterOf_99 ?_
  refine k_iload hX rfl dX7_letterOf_100 ?_
  refine k_callVI (vs := [.int x3, .int x5]) hX (fun _ h9 => m_X7_child hX.2.2.2.2.2.2.1  h9) io_218 rfl ml_X7_97 ⟨Nat.le_of_ble_eq_true rfl, Nat.le_of_ble_eq_true rfl⟩ rfl rfl (Nat.le_of_ble_eq_true rfl) dX7_letterOf_102 (fun q3 => ?_)
  refine k_ald hX ia_226 dX7_letterOf_105 (fun v4 => ?_)
  refine k_icmp_ne (tgt := 117) hX dX7_letterOf_106 (by decide) (fun b5 => ?_) (fun b5 => ?_)
  · exact w_X7_letterOf_117 hX hk5 x3 x4 x5 q3.2 ⟨rfl, rfl, rfl, rfl, trivial⟩
  refine k_aload_n hX (i := 0) rfl rfl dX7_letterOf_109 ?_
  refine k_iload_n hX (i := 3) rfl rfl dX7_letterOf_110 ?_
  refine k_iload hX rfl dX7_letterOf_111 ?_
  refine k_callVI (vs := [.int x3, .int x5]) hX (fun _ h9 => m_X7_behind hX.2.2.2.2.2.2.1  h9) io_218 rfl ml_X7_101 ⟨Nat.le_of_ble_eq_true rfl, Nat.le_of_ble_eq_true rfl⟩ rfl rfl (Nat.le_of_ble_eq_true rfl) dX7_letterOf_113 (fun q6 => ?_)
  exact k_iret hX dX7_letterOf_116
set_option maxHeartbeats 4000000 in
set_option maxRecDepth 100000 in
theorem w_X7_letterOf_30 {l : Launch} {G : GL} {ad : Nat → Nat} {MM : Mem} {X : CT} (hX : Cx l { frames := 2, cells := 0, slots := 0, locals := 43 } cX7_letterOf RX7 6 (some .int) G ad X) {k5 : Int32 → Int32 → Mem → Option Rv} (hk5 : ∀ (x3 : Int32) (x4 : Int32) (M : Mem) {L : List (Option Value)}, lsub [some (.ref (ad 218)), none, none, some (.int x3), some (.int x4), none] L → KF l { frames := 2, cells := 0, slots := 0, locals := 43 } 6 G ad (EM G ad MM) (QP PostI G ad (EM G ad MM)) X (k5 x3 x4 M) L 5 [] M) : ∀ (n : Nat), ∀ (x3 : Int32) (x4 : Int32) (x5 : Int32) (M : Mem) {L : List (Option Value)}, lsub [some (.ref (ad 218)), none, none, some (.int x3), some (.int x4), some (.int x5)] L → KF l { frames := 2, cells := 0, slots := 0, locals := 43 } 6 G ad (EM G ad MM) (QP PostI G ad (EM G ad MM)) X (f_X7_letterOf_30 k5 n x3 x4 x5 M) L 30 [] M := by
  intro n
  induction n with
  | zero =>
    intro x3 x4 x5 M L hL
    exact KF.none'
  | succ n ih =>
    intro x3 x4 x5 M L hL
    rw [f_X7_letterOf_30]
    refine KF.locals (lsub_le hL) ?_
    refine k_aload_n hX (i := 0) rfl rfl dX7_letterOf_30 ?_
    refine k_iload_n hX (i := 3) rfl rfl dX7_letterOf_31 ?_
    refine k_callVI (vs := [.int x3]) hX (fun _ h9 => m_X7_begins hX.2.2.2.2.2.2.1  h9) io_218 rfl ml_X7_94 ⟨Nat.le_of_ble_eq_true rfl, Nat.le_of_ble_eq_true rfl⟩ rfl rfl (Nat.le_of_ble_eq_true rfl) dX7_letterOf_32 (fun q1 => ?_)
    refine k_bipush (v := (nI 40)) hX rfl dX7_letterOf_35 ?_
    refine k_icmp_ne (tgt := 82) hX dX7_letterOf_37 (by decide) (fun b2 => ?_) (fun b2 => ?_)
    · exact w_X7_letterOf_82 hX hk5 x3 x4 x5 q1.2 ⟨rfl, rfl, rfl, rfl, trivial⟩
    refine k_iload hX rfl dX7_letterOf_40 ?_
    refine k_aload_n hX (i := 0) rfl rfl dX7_letterOf_42 ?_
    refine k_get hX io_218 fl_X7_32 rfl dX7_letterOf_43 ?_
    refine k_aload_n hX (i := 0) rfl rfl dX7_letterOf_46 ?_
    refine k_iload_n hX (i := 3) rfl rfl dX7_letterOf_47 ?_
    refine k_iload hX rfl dX7_letterOf_48 ?_
    refine k_callVI (vs := [.int x3, .int x5]) hX (fun _ h9 => m_X7_child hX.2.2.2.2.2.2.1  h9) io_218 rfl ml_X7_97 ⟨Nat.le_of_ble_eq_true rfl, Nat.le_of_ble_eq_true rfl⟩ rfl rfl (Nat.le_of_ble_eq_true rfl) dX7_letterOf_50 (fun q3 => ?_)
    refine k_ald hX ia_226 dX7_letterOf_53 (fun v4 => ?_)
    refine k_icmp_le (tgt := 82) hX dX7_letterOf_54 (by decide) (fun b5 => ?_) (fun b5 => ?_)
    · exact w_X7_letterOf_82 hX hk5 x3 x4 x5 q3.2 ⟨rfl, rfl, rfl, rfl, trivial⟩
    refine k_iload hX rfl dX7_letterOf_57 ?_
    refine k_aload_n hX (i := 0) rfl rfl dX7_letterOf_59 ?_
    refine k_get hX io_218 fl_X7_32 rfl dX7_letterOf_60 ?_
    refine k_aload_n hX (i := 0) rfl rfl dX7_letterOf_63 ?_
    refine k_iload_n hX (i := 3) rfl rfl dX7_letterOf_64 ?_
    refine k_iload hX rfl dX7_letterOf_65 ?_
    refine k_callVI (vs := [.int x3, .int x5]) hX (fun _ h9 => m_X7_child hX.2.2.2.2.2.2.1  h9) io_218 rfl ml_X7_97 ⟨Nat.le_of_ble_eq_true rfl, Nat.le_of_ble_eq_true rfl⟩ rfl rfl (Nat.le_of_ble_eq_true rfl) dX7_letterOf_67 (fun q6 => ?_)
    refine k_ald hX ia_226 dX7_letterOf_70 (fun v7 => ?_)
    refine k_iconst (v := (nI 1)) hX rfl dX7_letterOf_71 ?_
    refine k_iadd hX dX7_letterOf_72 ?_
    refine k_isub hX dX7_letterOf_73 ?_
    refine k_istore (L' := [some (.ref (ad 218)), none, none, some (.int x3), some (.int (x4 - (v7 + (nI 1)))), some (.int x5)]) hX (by decide) rfl dX7_letterOf_74 ?_
    refine k_iinc (v := x5 + nI 1) (L' := [some (.ref (ad 218)), none, none, some (.int x3), some (.int (x4 - (v7 + (nI 1)))), some (.int (x5 + nI 1))]) hX (i := 5) rfl rfl (by decide) rfl dX7_letterOf_76 ?_
    refine k_goto (tgt := 30) hX dX7_letterOf_79 (by decide) ?_
    exact ih x3 (x4 - (v7 + (nI 1))) (x5 + nI 1) q6.2 ⟨rfl, rfl, rfl, rfl, trivial⟩
set_option maxHeartbeats 4000000 in
set_option maxRecDepth 100000 in
theorem w_X7_letterOf_5 {l : Launch} {G : GL} {ad : Nat → Nat} {MM : Mem} {X : CT} (hX : Cx l { frames := 2, cells := 0, slots := 0, locals := 43 } cX7_letterOf RX7 6 (some .int) G ad X) : ∀ (n : Nat), ∀ (x3 : Int32) (x4 : Int32) (M : Mem) {L : List (Option Value)}, lsub [some (.ref (ad 218)), none, none, some (.int x3), some (.int x4), none] L → KF l { frames := 2, cells := 0, slots := 0, locals := 43 } 6 G ad (EM G ad MM) (QP PostI G ad (EM G ad MM)) X (f_X7_letterOf_5 n x3 x4 M) L 5 [] M := by
  intro n
  induction n with
  | zero =>
    intro x3 x4 M L hL
    exact KF.none'
  | succ n ih =>
    intro x3 x4 M L hL
    rw [f_X7_letterOf_5]
    refine KF.locals (lsub_le hL) ?_
    refine k_iload hX rfl dX7_letterOf_5 ?_
    refine k_if_le (tgt := 128) hX dX7_letterOf_7 (by decide) (fun b1 => ?_) (fun b1 => ?_)
    · refine k_aload_n hX (i := 0) rfl rfl dX7_letterOf_128 ?_
      refine k_iload_n hX (i := 3) rfl rfl dX7_letterOf_129 ?_
      refine k_callVI (vs := [.int x3]) hX (fun _ h9 => m_X7_begins hX.2.2.2.2.2.2.1  h9) io_218 rfl ml_X7_94 ⟨Nat.le_of_ble_eq_true rfl, Nat.le_of_ble_eq_true rfl⟩ rfl rfl (Nat.le_of_ble_eq_true rfl) dX7_letterOf_130 (fun q2 => ?_)
      exact k_iret hX dX7_letterOf_133
    refine k_iload_n hX (i := 3) rfl rfl dX7_letterOf_10 ?_
    refine k_bipush (v := (nI 16)) hX rfl dX7_letterOf_11 ?_
    refine k_icmp_ge (tgt := 24) hX dX7_letterOf_13 (by decide) (fun b3 => ?_) (fun b3 => ?_)
    · refine k_iinc (v := x4 - nI 1) (L' := [some (.ref (ad 218)), none, none, some (.int x3), some (.int (x4 - nI 1)), none]) hX (i := 4) rfl (iinc_neg _ _ rfl) (by decide) rfl dX7_letterOf_24 ?_
      refine k_iconst (v := (nI 0)) hX rfl dX7_letterOf_27 ?_
      refine k_istore (L' := [some (.ref (ad 218)), none, none, some (.int x3), some (.int (x4 - nI 1)), some (.int (nI 0))]) hX (by decide) rfl dX7_letterOf_28 ?_
      exact w_X7_letterOf_30 hX ih fuelN x3 (x4 - nI 1) (nI 0) M ⟨rfl, rfl, rfl, rfl, trivial⟩
    refine k_bipush (v := (nI 97)) hX rfl dX7_letterOf_16 ?_
    refine k_iload_n hX (i := 3) rfl rfl dX7_letterOf_18 ?_
    refine k_iadd hX dX7_letterOf_19 ?_
    refine k_bipush (v := (nI 10)) hX rfl dX7_letterOf_20 ?_
    refine k_isub hX dX7_letterOf_22 ?_
    exact k_iret hX dX7_letterOf_23
set_option maxHeartbeats 4000000 in
set_option maxRecDepth 100000 in
theorem w_X7_letterOf {l : Launch} {G : GL} {ad : Nat → Nat} {MM : Mem} {X : CT} (hX : Cx l { frames := 2, cells := 0, slots := 0, locals := 43 } cX7_letterOf RX7 6 (some .int) G ad X) {p1 : Int32} {p2 : Int32} {M : Mem} : KF l { frames := 2, cells := 0, slots := 0, locals := 43 } 6 G ad (EM G ad MM) (QP PostI G ad (EM G ad MM)) X (f_X7_letterOf p1 p2 M) [some (.ref (ad 218)), some (.int p1), some (.int p2), none, none, none] 0 [] M := by
  unfold f_X7_letterOf
  refine k_iload_n hX (i := 1) rfl rfl dX7_letterOf_0 ?_
  refine k_istore_n (L' := [some (.ref (ad 218)), some (.int p1), some (.int p2), some (.int p1), none, none]) hX (i := 3) rfl (by decide) rfl dX7_letterOf_1 ?_
  refine k_iload_n hX (i := 2) rfl rfl dX7_letterOf_2 ?_
  refine k_istore (L' := [some (.ref (ad 218)), some (.int p1), some (.int p2), some (.int p1), some (.int p2), none]) hX (by decide) rfl dX7_letterOf_3 ?_
  exact w_X7_letterOf_5 hX fuelN p1 p2 M ⟨rfl, rfl, rfl, trivial⟩
set_option maxRecDepth 100000 in
theorem m_X7_letterOf {l : Launch} {G : GL} {ad : Nat → Nat} {MM : Mem} (hAd : AdOK G ad) {p1 : Int32} {p2 : Int32} {M : Mem} {r : Rv} (h : f_X7_letterOf p1 p2 M = some r) : Ct PostI l G ad (EM G ad MM) yX7_letterOf cX7_letterOf 6 (some .int) 2 43 [.ref (ad 218), .int p1, .int p2] M r := ct_of' hAd (by decide +kernel) (List.forall_mem_cons.mpr ⟨rfl, (List.forall_mem_cons.mpr ⟨rfl, (List.forall_mem_cons.mpr ⟨rfl, (fun _ h => absurd h List.not_mem_nil)⟩)⟩)⟩) (Nat.le_of_ble_eq_true rfl) (L := [some (.ref (ad 218)), some (.int p1), some (.int p2), none, none, none]) rfl (fun _ hX => w_X7_letterOf hX) h
set_option maxHeartbeats 4000000 in
set_option maxRecDepth 100000 in
theorem w_X7_letter_49 {l : Launch} {G : GL} {ad : Nat → Nat} {MM : Mem} {X : CT} (hX : Cx l { frames := 4, cells := 0, slots := 0, locals := 94 } cX7_letter RX7 5 (some .int) G ad X) : ∀ (s0 : Int32) (M : Mem) {L : List (Option Value)}, lsub [none, none, none, none, none] L → KF l { frames := 4, cells := 0, slots := 0, locals := 94 } 5 G ad (EM G ad MM) (QP PostI G ad (EM G ad MM)) X (f_X7_letter_49 s0 M) L 49 [.int s0] M := by
  intro s0 M L hL
  unfold f_X7_letter_49
  refine KF.locals (lsub_le hL) ?_
  exact k_iret hX dX7_letter_49
set_option maxHeartbeats 4000000 in
set_option maxRecDepth 100000 in
theorem w_X7_letter {l : Launch} {G : GL} {ad : Nat → Nat} {MM : Mem} {X : CT} (hX : Cx l { frames := 4, cells := 0, slots := 0, locals := 94 } cX7_letter RX7 5 (some .int) G ad X) {p1 : Int32} {p2 : Int32} {p3 : Int32} {M : Mem} : KF l { frames := 4, cells := 0, slots := 0, locals := 94 } 5 G ad (EM G ad MM) (QP PostI G ad (EM G ad MM)) X (f_X7_letter p1 p2 p3 M) [some (.ref (ad 218)), some (.int p1), some (.int p2), some (.int p3), none] 0 [] M := by
  unfold f_X7_letter
  refine k_aload_n hX (i := 0) rfl rfl dX7_letter_0 ?_
  refine k_iload_n hX (i := 1) rfl rfl dX7_letter_1 ?_
  refine k_iload_n hX (i := 2) rfl rfl dX7_letter_2 ?_
  refine k_callVI (vs := [.int p1, .int p2]) hX (fun _ h9 => m_X7_isPart hX.2.2.2.2.2.2.1  h9) io_218 rfl ml_X7_267 ⟨Nat.le_of_ble_eq_true rfl, Nat.le_of_ble_eq_true rfl⟩ rfl rfl (Nat.le_of_ble_eq_true rfl) dX7_letter_3 (fun q1 => ?_)
  refine k_if_ne (tgt := 11) hX dX7_letter_6 (by decide) (fun b2 => ?_) (fun b2 => ?_)
  · refine k_iload_n hX (i := 3) rfl rfl dX7_letter_11 ?_
    refine k_if_ge (tgt := 18) hX dX7_letter_12 (by decide) (fun b3 => ?_) (fun b3 => ?_)
    · refine k_aload_n hX (i := 0) rfl rfl dX7_letter_18 ?_
      refine k_iload_n hX (i := 1) rfl rfl dX7_letter_19 ?_
      refine k_iload_n hX (i := 2) rfl rfl dX7_letter_20 ?_
      refine k_callVI (vs := [.int p1, .int p2]) hX (fun _ h9 => m_X7_loadAlone hX.2.2.2.2.2.2.1  h9) io_218 rfl ml_X7_165 ⟨Nat.le_of_ble_eq_true rfl, Nat.le_of_ble_eq_true rfl⟩ rfl rfl (Nat.le_of_ble_eq_true rfl) dX7_letter_21 (fun q4 => ?_)
      refine k_istore (L' := [some (.ref (ad 218)), some (.int p1), some (.int p2), some (.int p3), some (.int q4.1)]) hX (by decide) rfl dX7_letter_24 ?_
      refine k_iload_n hX (i := 3) rfl rfl dX7_letter_26 ?_
      refine k_aload_n hX (i := 0) rfl rfl dX7_letter_27 ?_
      refine k_get hX io_218 fl_X7_32 rfl dX7_letter_28 ?_
      refine k_iload hX rfl dX7_letter_31 ?_
      refine k_ald hX ia_226 dX7_letter_33 (fun v5 => ?_)
      refine k_icmp_ge (tgt := 47) hX dX7_letter_34 (by decide) (fun b6 => ?_) (fun b6 => ?_)
      · refine k_bipush (v := (-5)) hX rfl dX7_letter_47 ?_
        exact w_X7_letter_49 hX (-5) q4.2 trivial
      refine k_aload_n hX (i := 0) rfl rfl dX7_letter_37 ?_
      refine k_iload hX rfl dX7_letter_38 ?_
      refine k_iload_n hX (i := 3) rfl rfl dX7_letter_40 ?_
      refine k_callVI (vs := [.int q4.1, .int p3]) hX (fun _ h9 => m_X7_letterOf hX.2.2.2.2.2.2.1  h9) io_218 rfl ml_X7_270 ⟨Nat.le_of_ble_eq_true rfl, Nat.le_of_ble_eq_true rfl⟩ rfl rfl (Nat.le_of_ble_eq_true rfl) dX7_letter_41 (fun q7 => ?_)
      refine k_goto (tgt := 49) hX dX7_letter_44 (by decide) ?_
      exact w_X7_letter_49 hX q7.1 q7.2 trivial
    refine k_bipush (v := (-2)) hX rfl dX7_letter_15 ?_
    exact k_iret hX dX7_letter_17
  refine k_iconst (v := (-1)) hX rfl dX7_letter_9 ?_
  exact k_iret hX dX7_letter_10
set_option maxRecDepth 100000 in
theorem m_X7_letter {l : Launch} {G : GL} {ad : Nat → Nat} {MM : Mem} (hAd : AdOK G ad) {p1 : Int32} {p2 : Int32} {p3 : Int32} {M : Mem} {r : Rv} (h : f_X7_letter p1 p2 p3 M = some r) : Ct PostI l G ad (EM G ad MM) yX7_letter cX7_letter 5 (some .int) 4 94 [.ref (ad 218), .int p1, .int p2, .int p3] M r := ct_of' hAd (by decide +kernel) (List.forall_mem_cons.mpr ⟨rfl, (List.forall_mem_cons.mpr ⟨rfl, (List.forall_mem_cons.mpr ⟨rfl, (List.forall_mem_cons.mpr ⟨rfl, (fun _ h => absurd h List.not_mem_nil)⟩)⟩)⟩)⟩) (Nat.le_of_ble_eq_true rfl) (L := [some (.ref (ad 218)), some (.int p1), some (.int p2), some (.int p3), none]) rfl (fun _ hX => w_X7_letter hX) h
set_option maxHeartbeats 4000000 in
set_option maxRecDepth 100000 in
theorem w_X7_signs_46 {l : Launch} {G : GL} {ad : Nat → Nat} {MM : Mem} {X : CT} (hX : Cx l { frames := 2, cells := 0, slots := 0, locals := 45 } cX7_signs RX7 4 (some .int) G ad X) {k9 : Int32 → Int32 → Mem → Option Rv} (hk9 : ∀ (x2 : Int32) (x3 : Int32) (M : Mem) {L : List (Option Value)}, lsub [some (.ref (ad 218)), none, some (.int x2), some (.int x3)] L → KF l { frames := 2, cells := 0, slots := 0, locals := 45 } 4 G ad (EM G ad MM) (QP PostI G ad (EM G ad MM)) X (k9 x2 x3 M) L 9 [] M) : ∀ (x3 : Int32) (s0 : Int32) (s1 : Int32) (M : Mem) {L : List (Option Value)}, lsub [some (.ref (ad 218)), none, none, some (.int x3)] L → KF l { frames := 2, cells := 0, slots := 0, locals := 45 } 4 G ad (EM G ad MM) (QP PostI G ad (EM G ad MM)) X (f_X7_signs_46 k9 x3 s0 s1 M) L 46 [.int s0, .int s1] M := by
  intro x3 s0 s1 M L hL
  unfold f_X7_signs_46
  refine KF.locals (lsub_le hL) ?_
  refine k_ior hX dX7_signs_46 ?_
  refine k_istore_n (L' := [some (.ref (ad 218)), none, some (.int (s1 ||| s0)), some (.int x3)]) hX (i := 2) rfl (by decide) rfl dX7_signs_47 ?_
  refine k_iinc (v := x3 + nI 1) (L' := [some (.ref (ad 218)), none, some (.int (s1 ||| s0)), some (.int (x3 + nI 1))]) hX (i := 3) rfl rfl (by decide) rfl dX7_signs_48 ?_
  refine k_goto (tgt := 9) hX dX7_signs_51 (by decide) ?_
  exact hk9 (s1 ||| s0) (x3 + nI 1) M ⟨rfl, rfl, rfl, trivial⟩
set_option maxHeartbeats 4000000 in
set_option maxRecDepth 100000 in
theorem w_X7_signs_39 {l : Launch} {G : GL} {ad : Nat → Nat} {MM : Mem} {X : CT} (hX : Cx l { frames := 2, cells := 0, slots := 0, locals := 45 } cX7_signs RX7 4 (some .int) G ad X) {k9 : Int32 → Int32 → Mem → Option Rv} (hk9 : ∀ (x2 : Int32) (x3 : Int32) (M : Mem) {L : List (Option Value)}, lsub [some (.ref (ad 218)), none, some (.int x2), some (.int x3)] L → KF l { frames := 2, cells := 0, slots := 0, locals := 45 } 4 G ad (EM G ad MM) (QP PostI G ad (EM G ad MM)) X (k9 x2 x3 M) L 9 [] M) : ∀ (x3 : Int32) (s0 : Int32) (M : Mem) {L : List (Option Value)}, lsub [some (.ref (ad 218)), none, none, some (.int x3)] L → KF l { frames := 2, cells := 0, slots := 0, locals := 45 } 4 G ad (EM G ad MM) (QP PostI G ad (EM G ad MM)) X (f_X7_signs_39 k9 x3 s0 M) L 39 [.int s0] M := by
  intro x3 s0 M L hL
  unfold f_X7_signs_39
  refine KF.locals (lsub_le hL) ?_
  refine k_iconst (v := (nI 1)) hX rfl dX7_signs_39 ?_
  refine k_iload_n hX (i := 3) rfl rfl dX7_signs_40 ?_
  refine k_ishl hX dX7_signs_41 ?_
  refine k_goto (tgt := 46) hX dX7_signs_42 (by decide) ?_
  exact w_X7_signs_46 hX hk9 x3 ((nI 1) <<< (x3 &&& nI 31)) s0 M ⟨rfl, rfl, trivial⟩
set_option maxHeartbeats 4000000 in
set_option maxRecDepth 100000 in
theorem w_X7_signs_9 {l : Launch} {G : GL} {ad : Nat → Nat} {MM : Mem} {X : CT} (hX : Cx l { frames := 2, cells := 0, slots := 0, locals := 45 } cX7_signs RX7 4 (some .int) G ad X) : ∀ (n : Nat), ∀ (x2 : Int32) (x3 : Int32) (M : Mem) {L : List (Option Value)}, lsub [some (.ref (ad 218)), none, some (.int x2), some (.int x3)] L → KF l { frames := 2, cells := 0, slots := 0, locals := 45 } 4 G ad (EM G ad MM) (QP PostI G ad (EM G ad MM)) X (f_X7_signs_9 n x2 x3 M) L 9 [] M := by
  intro n
  induction n with
  | zero =>
    intro x2 x3 M L hL
    exact KF.none'
  | succ n ih =>
    intro x2 x3 M L hL
    rw [f_X7_signs_9]
    refine KF.locals (lsub_le hL) ?_
    refine k_iload_n hX (i := 3) rfl rfl dX7_signs_9 ?_
    refine k_bipush (v := (nI 6)) hX rfl dX7_signs_10 ?_
    refine k_icmp_ge (tgt := 54) hX dX7_signs_12 (by decide) (fun b1 => ?_) (fun b1 => ?_)
    · refine k_iload_n hX (i := 2) rfl rfl dX7_signs_54 ?_
      exact k_iret hX dX7_signs_55
    refine k_iload_n hX (i := 2) rfl rfl dX7_signs_15 ?_
    refine k_aload_n hX (i := 0) rfl rfl dX7_signs_16 ?_
    refine k_get hX io_218 fl_X7_38 rfl dX7_signs_17 ?_
    refine k_iconst (v := (nI 4)) hX rfl dX7_signs_20 ?_
    refine k_iload_n hX (i := 3) rfl rfl dX7_signs_21 ?_
    refine k_iadd hX dX7_signs_22 ?_
    refine k_zald hX ia_228 dX7_signs_23 (fun v2 => ?_)
    refine k_if_ne (tgt := 39) hX dX7_signs_24 (by decide) (fun b3 => ?_) (fun b3 => ?_)
    · exact w_X7_signs_39 hX ih x3 x2 M ⟨rfl, rfl, trivial⟩
    refine k_aload_n hX (i := 0) rfl rfl dX7_signs_27 ?_
    refine k_get hX io_218 fl_X7_38 rfl dX7_signs_28 ?_
    refine k_bipush (v := (nI 10)) hX rfl dX7_signs_31 ?_
    refine k_iload_n hX (i := 3) rfl rfl dX7_signs_33 ?_
    refine k_iadd hX dX7_signs_34 ?_
    refine k_zald hX ia_228 dX7_signs_35 (fun v4 => ?_)
    refine k_if_eq (tgt := 45) hX dX7_signs_36 (by decide) (fun b5 => ?_) (fun b5 => ?_)
    · refine k_iconst (v := (nI 0)) hX rfl dX7_signs_45 ?_
      exact w_X7_signs_46 hX ih x3 (nI 0) x2 M ⟨rfl, rfl, trivial⟩
    exact w_X7_signs_39 hX ih x3 x2 M ⟨rfl, rfl, trivial⟩
set_option maxHeartbeats 4000000 in
set_option maxRecDepth 100000 in
theorem w_X7_signs {l : Launch} {G : GL} {ad : Nat → Nat} {MM : Mem} {X : CT} (hX : Cx l { frames := 2, cells := 0, slots := 0, locals := 45 } cX7_signs RX7 4 (some .int) G ad X) {p1 : Int32} {M : Mem} : KF l { frames := 2, cells := 0, slots := 0, locals := 45 } 4 G ad (EM G ad MM) (QP PostI G ad (EM G ad MM)) X (f_X7_signs p1 M) [some (.ref (ad 218)), some (.int p1), none, none] 0 [] M := by
  unfold f_X7_signs
  refine k_aload_n hX (i := 0) rfl rfl dX7_signs_0 ?_
  refine k_iload_n hX (i := 1) rfl rfl dX7_signs_1 ?_
  refine k_callVV (vs := [.int p1]) hX (fun _ h9 => m_X7_mark hX.2.2.2.2.2.2.1  h9) io_218 rfl ml_X7_130 ⟨Nat.le_of_ble_eq_true rfl, Nat.le_of_ble_eq_true rfl⟩ rfl rfl (Nat.le_of_ble_eq_true rfl) dX7_signs_2 (fun q1 => ?_)
  refine k_iconst (v := (nI 0)) hX rfl dX7_signs_5 ?_
  refine k_istore_n (L' := [some (.ref (ad 218)), some (.int p1), some (.int (nI 0)), none]) hX (i := 2) rfl (by decide) rfl dX7_signs_6 ?_
  refine k_iconst (v := (nI 0)) hX rfl dX7_signs_7 ?_
  refine k_istore_n (L' := [some (.ref (ad 218)), some (.int p1), some (.int (nI 0)), some (.int (nI 0))]) hX (i := 3) rfl (by decide) rfl dX7_signs_8 ?_
  exact w_X7_signs_9 hX fuelN (nI 0) (nI 0) q1.2 ⟨rfl, rfl, rfl, trivial⟩
set_option maxRecDepth 100000 in
theorem m_X7_signs {l : Launch} {G : GL} {ad : Nat → Nat} {MM : Mem} (hAd : AdOK G ad) {p1 : Int32} {M : Mem} {r : Rv} (h : f_X7_signs p1 M = some r) : Ct PostI l G ad (EM G ad MM) yX7_signs cX7_signs 4 (some .int) 2 45 [.ref (ad 218), .int p1] M r := ct_of' hAd (by decide +kernel) (List.forall_mem_cons.mpr ⟨rfl, (List.forall_mem_cons.mpr ⟨rfl, (fun _ h => absurd h List.not_mem_nil)⟩)⟩) (Nat.le_of_ble_eq_true rfl) (L := [some (.ref (ad 218)), some (.int p1), none, none]) rfl (fun _ hX => w_X7_signs hX) h
set_option maxHeartbeats 4000000 in
set_option maxRecDepth 100000 in
theorem w_X7_part_89 {l : Launch} {G : GL} {ad : Nat → Nat} {MM : Mem} {X : CT} (hX : Cx l { frames := 4, cells := 0, slots := 0, locals := 94 } cX7_part RX7 5 (some .int) G ad X) : ∀ (s0 : Int32) (M : Mem) {L : List (Option Value)}, lsub [none, none, none, none, none] L → KF l { frames := 4, cells := 0, slots := 0, locals := 94 } 5 G ad (EM G ad MM) (QP PostI G ad (EM G ad MM)) X (f_X7_part_89 s0 M) L 89 [.int s0] M := by
  intro s0 M L hL
  unfold f_X7_part_89
  refine KF.locals (lsub_le hL) ?_
  exact k_iret hX dX7_part_89
set_option maxHeartbeats 4000000 in
set_option maxRecDepth 100000 in
theorem w_X7_part {l : Launch} {G : GL} {ad : Nat → Nat} {MM : Mem} {X : CT} (hX : Cx l { frames := 4, cells := 0, slots := 0, locals := 94 } cX7_part RX7 5 (some .int) G ad X) {p1 : Int32} {p2 : Int32} {p3 : Int32} {M : Mem} : KF l { frames := 4, cells := 0, slots := 0, locals := 94 } 5 G ad (EM G ad MM) (QP PostI G ad (EM G ad MM)) X (f_X7_part p1 p2 p3 M) [some (.ref (ad 218)), some (.int p1), some (.int p2), some (.int p3), none] 0 [] M := by
  unfold f_X7_part
  refine k_aload_n hX (i := 0) rfl rfl dX7_part_0 ?_
  refine k_iload_n hX (i := 1) rfl rfl dX7_part_1 ?_
  refine k_iload_n hX (i := 2) rfl rfl dX7_part_2 ?_
  refine k_callVI (vs := [.int p1, .int p2]) hX (fun _ h9 => m_X7_isPart hX.2.2.2.2.2.2.1  h9) io_218 rfl ml_X7_267 ⟨Nat.le_of_ble_eq_true rfl, Nat.le_of_ble_eq_true rfl⟩ rfl rfl (Nat.le_of_ble_eq_true rfl) dX7_part_3 (fun q1 => ?_)
  refine k_if_ne (tgt := 11) hX dX7_part_6 (by decide) (fun b2 => ?_) (fun b2 => ?_)
  · refine k_aload_n hX (i := 0) rfl rfl dX7_part_11 ?_
    refine k_iload_n hX (i := 1) rfl rfl dX7_part_12 ?_
    refine k_iload_n hX (i := 2) rfl rfl dX7_part_13 ?_
    refine k_callVI (vs := [.int p1, .int p2]) hX (fun _ h9 => m_X7_loadAlone hX.2.2.2.2.2.2.1  h9) io_218 rfl ml_X7_165 ⟨Nat.le_of_ble_eq_true rfl, Nat.le_of_ble_eq_true rfl⟩ rfl rfl (Nat.le_of_ble_eq_true rfl) dX7_part_14 (fun q3 => ?_)
    refine k_istore (L' := [some (.ref (ad 218)), some (.int p1), some (.int p2), some (.int p3), some (.int q3.1)]) hX (by decide) rfl dX7_part_17 ?_
    refine k_iload_n hX (i := 3) rfl rfl dX7_part_19 ?_
    refine KF.ite (fun b4 => ?_) (fun b4 => ?_)
    · refine k_tabIn (tgt := 52) hX b4 dX7_part_20 (by decide) (by decide) rfl (by decide) ?_
      refine k_aload_n hX (i := 0) rfl rfl dX7_part_52 ?_
      refine k_get hX io_218 fl_X7_29 rfl dX7_part_53 ?_
      refine k_iload hX rfl dX7_part_56 ?_
      refine k_ald hX ia_225 dX7_part_58 (fun v5 => ?_)
      exact k_iret hX dX7_part_59
    refine KF.ite (fun b6 => ?_) (fun b6 => ?_)
    · refine k_tabIn (tgt := 60) hX b6 dX7_part_20 (by decide) (by decide) rfl (by decide) ?_
      refine k_aload_n hX (i := 0) rfl rfl dX7_part_60 ?_
      refine k_get hX io_218 fl_X7_32 rfl dX7_part_61 ?_
      refine k_iload hX rfl dX7_part_64 ?_
      refine k_ald hX ia_226 dX7_part_66 (fun v7 => ?_)
      exact k_iret hX dX7_part_67
    refine KF.ite (fun b8 => ?_) (fun b8 => ?_)
    · refine k_tabIn (tgt := 68) hX b8 dX7_part_20 (by decide) (by decide) rfl (by decide) ?_
      refine k_aload_n hX (i := 0) rfl rfl dX7_part_68 ?_
      refine k_iload hX rfl dX7_part_69 ?_
      refine k_callVI (vs := [.int q3.1]) hX (fun _ h9 => m_X7_signs hX.2.2.2.2.2.2.1  h9) io_218 rfl ml_X7_273 ⟨Nat.le_of_ble_eq_true rfl, Nat.le_of_ble_eq_true rfl⟩ rfl rfl (Nat.le_of_ble_eq_true rfl) dX7_part_71 (fun q9 => ?_)
      exact k_iret hX dX7_part_74
    refine KF.ite (fun b10 => ?_) (fun b10 => ?_)
    · refine k_tabIn (tgt := 75) hX b10 dX7_part_20 (by decide) (by decide) rfl (by decide) ?_
      refine k_aload_n hX (i := 0) rfl rfl dX7_part_75 ?_
      refine k_iload hX rfl dX7_part_76 ?_
      refine k_callVI (vs := [.int q3.1]) hX (fun _ h9 => m_X7_isTrue hX.2.2.2.2.2.2.1  h9) io_218 rfl ml_X7_197 ⟨Nat.le_of_ble_eq_true rfl, Nat.le_of_ble_eq_true rfl⟩ rfl rfl (Nat.le_of_ble_eq_true rfl) dX7_part_78 (fun q11 => ?_)
      refine k_if_eq (tgt := 88) hX dX7_part_81 (by decide) (fun b12 => ?_) (fun b12 => ?_)
      · refine k_iconst (v := (nI 0)) hX rfl dX7_part_88 ?_
        exact w_X7_part_89 hX (nI 0) q11.2 trivial
      refine k_iconst (v := (nI 1)) hX rfl dX7_part_84 ?_
      refine k_goto (tgt := 89) hX dX7_part_85 (by decide) ?_
      exact w_X7_part_89 hX (nI 1) q11.2 trivial
    replace b4 := ne_toInt (k := 0) b4 (by decide)
    replace b6 := ne_toInt (k := 1) b6 (by decide)
    replace b8 := ne_toInt (k := 2) b8 (by decide)
    replace b10 := ne_toInt (k := 3) b10 (by decide)
    refine k_tabOut (tgt := 90) hX dX7_part_20 (by omega) (by decide) ?_
    refine k_bipush (v := (-2)) hX rfl dX7_part_90 ?_
    exact k_iret hX dX7_part_92
  refine k_iconst (v := (-1)) hX rfl dX7_part_9 ?_
  exact k_iret hX dX7_part_10
set_option maxRecDepth 100000 in
theorem m_X7_part {l : Launch} {G : GL} {ad : Nat → Nat} {MM : Mem} (hAd : AdOK G ad) {p1 : Int32} {p2 : Int32} {p3 : Int32} {M : Mem} {r : Rv} (h : f_X7_part p1 p2 p3 M = some r) : Ct PostI l G ad (EM G ad MM) yX7_part cX7_part 5 (some .int) 4 94 [.ref (ad 218), .int p1, .int p2, .int p3] M r := ct_of' hAd (by decide +kernel) (List.forall_mem_cons.mpr ⟨rfl, (List.forall_mem_cons.mpr ⟨rfl, (List.forall_mem_cons.mpr ⟨rfl, (List.forall_mem_cons.mpr ⟨rfl, (fun _ h => absurd h List.not_mem_nil)⟩)⟩)⟩)⟩) (Nat.le_of_ble_eq_true rfl) (L := [some (.ref (ad 218)), some (.int p1), some (.int p2), some (.int p3), none]) rfl (fun _ hX => w_X7_part hX) h
set_option maxHeartbeats 4000000 in
set_option maxRecDepth 100000 in
theorem w_X7_would_44 {l : Launch} {G : GL} {ad : Nat → Nat} {MM : Mem} {X : CT} (hX : Cx l { frames := 9, cells := 0, slots := 0, locals := 212 } cX7_would RX7 3 (some .int) G ad X) : ∀ (s0 : Int32) (M : Mem) {L : List (Option Value)}, lsub [none, none, none] L → KF l { frames := 9, cells := 0, slots := 0, locals := 212 } 3 G ad (EM G ad MM) (QP PostI G ad (EM G ad MM)) X (f_X7_would_44 s0 M) L 44 [.int s0] M := by
  intro s0 M L hL
  unfold f_X7_would_44
  refine KF.locals (lsub_le hL) ?_
  exact k_iret hX dX7_would_44
set_option maxHeartbeats 4000000 in
set_option maxRecDepth 100000 in
theorem w_X7_would {l : Launch} {G : GL} {ad : Nat → Nat} {MM : Mem} {X : CT} (hX : Cx l { frames := 9, cells := 0, slots := 0, locals := 212 } cX7_would RX7 3 (some .int) G ad X) {p1 : Int32} {p2 : Int32} {M : Mem} : KF l { frames := 9, cells := 0, slots := 0, locals := 212 } 3 G ad (EM G ad MM) (QP PostI G ad (EM G ad MM)) X (f_X7_would p1 p2 M) [some (.ref (ad 218)), some (.int p1), some (.int p2)] 0 [] M := by
  unfold f_X7_would
  refine k_aload_n hX (i := 0) rfl rfl dX7_would_0 ?_
  refine k_iload_n hX (i := 1) rfl rfl dX7_would_1 ?_
  refine k_callVI (vs := [.int p1]) hX (fun _ h9 => m_X7_isThere hX.2.2.2.2.2.2.1  h9) io_218 rfl ml_X7_174 ⟨Nat.le_of_ble_eq_true rfl, Nat.le_of_ble_eq_true rfl⟩ rfl rfl (Nat.le_of_ble_eq_true rfl) dX7_would_2 (fun q1 => ?_)
  refine k_if_ne (tgt := 10) hX dX7_would_5 (by decide) (fun b2 => ?_) (fun b2 => ?_)
  · refine k_iload_n hX (i := 2) rfl rfl dX7_would_10 ?_
    refine k_iconst (v := (nI 0)) hX rfl dX7_would_11 ?_
    refine k_bipush (v := (nI 63)) hX rfl dX7_would_12 ?_
    refine k_callSI (vs := [.int p2, .int (nI 0), .int (nI 63)]) hX (fun _ h9 => m_X7_in hX.2.2.2.2.2.2.1  h9) ml_X7_70 ⟨Nat.le_of_ble_eq_true rfl, Nat.le_of_ble_eq_true rfl⟩ rfl rfl (Nat.le_of_ble_eq_true rfl) dX7_would_14 (fun q3 => ?_)
    refine k_if_ne (tgt := 23) hX dX7_would_17 (by decide) (fun b4 => ?_) (fun b4 => ?_)
    · refine k_aload_n hX (i := 0) rfl rfl dX7_would_23 ?_
      refine k_get hX io_218 fl_X7_7 rfl dX7_would_24 ?_
      refine k_iconst (v := (nI 1)) hX rfl dX7_would_27 ?_
      refine k_ald hX ia_219 dX7_would_28 (fun v5 => ?_)
      refine k_iconst (v := (nI 1)) hX rfl dX7_would_29 ?_
      refine k_icmp_ne (tgt := 38) hX dX7_would_30 (by decide) (fun b6 => ?_) (fun b6 => ?_)
      · refine k_aload_n hX (i := 0) rfl rfl dX7_would_38 ?_
        refine k_iload_n hX (i := 1) rfl rfl dX7_would_39 ?_
        refine k_iload_n hX (i := 2) rfl rfl dX7_would_40 ?_
        refine k_callVI (vs := [.int p1, .int p2]) hX (fun _ h9 => m_X7_wouldBe hX.2.2.2.2.2.2.1  h9) io_218 rfl ml_X7_171 ⟨Nat.le_of_ble_eq_true rfl, Nat.le_of_ble_eq_true rfl⟩ rfl rfl (Nat.le_of_ble_eq_true rfl) dX7_would_41 (fun q7 => ?_)
        exact w_X7_would_44 hX q7.1 q7.2 trivial
      refine k_bipush (v := (-4)) hX rfl dX7_would_33 ?_
      refine k_goto (tgt := 44) hX dX7_would_35 (by decide) ?_
      exact w_X7_would_44 hX (-4) q3.2 trivial
    refine k_bipush (v := (-2)) hX rfl dX7_would_20 ?_
    exact k_iret hX dX7_would_22
  refine k_iconst (v := (-1)) hX rfl dX7_would_8 ?_
  exact k_iret hX dX7_would_9
set_option maxRecDepth 100000 in
theorem m_X7_would {l : Launch} {G : GL} {ad : Nat → Nat} {MM : Mem} (hAd : AdOK G ad) {p1 : Int32} {p2 : Int32} {M : Mem} {r : Rv} (h : f_X7_would p1 p2 M = some r) : Ct PostI l G ad (EM G ad MM) yX7_would cX7_would 3 (some .int) 9 212 [.ref (ad 218), .int p1, .int p2] M r := ct_of' hAd (by decide +kernel) (List.forall_mem_cons.mpr ⟨rfl, (List.forall_mem_cons.mpr ⟨rfl, (List.forall_mem_cons.mpr ⟨rfl, (fun _ h => absurd h List.not_mem_nil)⟩)⟩)⟩) (Nat.le_of_ble_eq_true rfl) (L := [some (.ref (ad 218)), some (.int p1), some (.int p2)]) rfl (fun _ hX => w_X7_would hX) h
set_option maxHeartbeats 4000000 in
set_option maxRecDepth 100000 in
theorem w_X7_bears_115 {l : Launch} {G : GL} {ad : Nat → Nat} {MM : Mem} {X : CT} (hX : Cx l { frames := 9, cells := 0, slots := 0, locals := 212 } cX7_bears RX7 8 (some .int) G ad X) {k45 : Int32 → Int32 → Int32 → Int32 → Int32 → Mem → Option Rv} (hk45 : ∀ (x1 : Int32) (x2 : Int32) (x3 : Int32) (x4 : Int32) (x5 : Int32) (M : Mem) {L : List (Option Value)}, lsub [some (.ref (ad 218)), some (.int x1), some (.int x2), some (.int x3), some (.int x4), some (.int x5), none, none] L → KF l { frames := 9, cells := 0, slots := 0, locals := 212 } 8 G ad (EM G ad MM) (QP PostI G ad (EM G ad MM)) X (k45 x1 x2 x3 x4 x5 M) L 45 [] M) : ∀ (x1 : Int32) (x2 : Int32) (x3 : Int32) (x5 : Int32) (s0 : Int32) (M : Mem) {L : List (Option Value)}, lsub [some (.ref (ad 218)), some (.int x1), some (.int x2), some (.int x3), none, some (.int x5), none, none] L → KF l { frames := 9, cells := 0, slots := 0, locals := 212 } 8 G ad (EM G ad MM) (QP PostI G ad (EM G ad MM)) X (f_X7_bears_115 k45 x1 x2 x3 x5 s0 M) L 115 [.int s0] M := by
  intro x1 x2 x3 x5 s0 M L hL
  unfold f_X7_bears_115
  refine KF.locals (lsub_le hL) ?_
  refine k_istore (L' := [some (.ref (ad 218)), some (.int x1), some (.int x2), some (.int x3), some (.int s0), some (.int x5), none, none]) hX (by decide) rfl dX7_bears_115 ?_
  refine k_iinc (v := x5 - nI 1) (L' := [some (.ref (ad 218)), some (.int x1), some (.int x2), some (.int x3), some (.int s0), some (.int (x5 - nI 1)), none, none]) hX (i := 5) rfl (iinc_neg _ _ rfl) (by decide) rfl dX7_bears_117 ?_
  refine k_goto (tgt := 45) hX dX7_bears_120 (by decide) ?_
  exact hk45 x1 x2 x3 s0 (x5 - nI 1) M ⟨rfl, rfl, rfl, rfl, rfl, rfl, trivial⟩
set_option maxHeartbeats 4000000 in
set_option maxRecDepth 100000 in
theorem w_X7_bears_101 {l : Launch} {G : GL} {ad : Nat → Nat} {MM : Mem} {X : CT} (hX : Cx l { frames := 9, cells := 0, slots := 0, locals := 212 } cX7_bears RX7 8 (some .int) G ad X) {k45 : Int32 → Int32 → Int32 → Int32 → Int32 → Mem → Option Rv} (hk45 : ∀ (x1 : Int32) (x2 : Int32) (x3 : Int32) (x4 : Int32) (x5 : Int32) (M : Mem) {L : List (Option Value)}, lsub [some (.ref (ad 218)), some (.int x1), some (.int x2), some (.int x3), some (.int x4), some (.int x5), none, none] L → KF l { frames := 9, cells := 0, slots := 0, locals := 212 } 8 G ad (EM G ad MM) (QP PostI G ad (EM G ad MM)) X (k45 x1 x2 x3 x4 x5 M) L 45 [] M) : ∀ (x1 : Int32) (x2 : Int32) (x4 : Int32) (x5 : Int32) (x7 : Int32) (s0 : Int32) (s1 : Int32) (M : Mem) {L : List (Option Value)}, lsub [some (.ref (ad 218)), some (.int x1), some (.int x2), none, some (.int x4), some (.int x5), none, some (.int x7)] L → KF l { frames := 9, cells := 0, slots := 0, locals := 212 } 8 G ad (EM G ad MM) (QP PostI G ad (EM G ad MM)) X (f_X7_bears_101 k45 x1 x2 x4 x5 x7 s0 s1 M) L 101 [.int s0, .int s1] M := by
  intro x1 x2 x4 x5 x7 s0 s1 M L hL
  unfold f_X7_bears_101
  refine KF.locals (lsub_le hL) ?_
  refine k_iadd hX dX7_bears_101 ?_
  refine k_istore_n (L' := [some (.ref (ad 218)), some (.int x1), some (.int x2), some (.int (s1 + s0)), some (.int x4), some (.int x5), none, some (.int x7)]) hX (i := 3) rfl (by decide) rfl dX7_bears_102 ?_
  refine k_iload hX rfl dX7_bears_103 ?_
  refine k_if_eq (tgt := 113) hX dX7_bears_105 (by decide) (fun b1 => ?_) (fun b1 => ?_)
  · refine k_iload hX rfl dX7_bears_113 ?_
    exact w_X7_bears_115 hX hk45 x1 x2 (s1 + s0) x5 x4 M ⟨rfl, rfl, rfl, rfl, rfl, trivial⟩
  refine k_iload hX rfl dX7_bears_108 ?_
  refine k_goto (tgt := 115) hX dX7_bears_110 (by decide) ?_
  exact w_X7_bears_115 hX hk45 x1 x2 (s1 + s0) x5 x5 M ⟨rfl, rfl, rfl, rfl, rfl, trivial⟩
set_option maxHeartbeats 4000000 in
set_option maxRecDepth 100000 in
theorem w_X7_bears_88 {l : Launch} {G : GL} {ad : Nat → Nat} {MM : Mem} {X : CT} (hX : Cx l { frames := 9, cells := 0, slots := 0, locals := 212 } cX7_bears RX7 8 (some .int) G ad X) {k45 : Int32 → Int32 → Int32 → Int32 → Int32 → Mem → Option Rv} (hk45 : ∀ (x1 : Int32) (x2 : Int32) (x3 : Int32) (x4 : Int32) (x5 : Int32) (M : Mem) {L : List (Option Value)}, lsub [some (.ref (ad 218)), some (.int x1), some (.int x2), some (.int x3), some (.int x4), some (.int x5), none, none] L → KF l { frames := 9, cells := 0, slots := 0, locals := 212 } 8 G ad (EM G ad MM) (QP PostI G ad (EM G ad MM)) X (k45 x1 x2 x3 x4 x5 M) L 45 [] M) : ∀ (x1 : Int32) (x2 : Int32) (x3 : Int32) (x4 : Int32) (x5 : Int32) (s0 : Int32) (M : Mem) {L : List (Option Value)}, lsub [some (.ref (ad 218)), some (.int x1), some (.int x2), some (.int x3), some (.int x4), some (.int x5), none, none] L → KF l { frames := 9, cells := 0, slots := 0, locals := 212 } 8 G ad (EM G ad MM) (QP PostI G ad (EM G ad MM)) X (f_X7_bears_88 k45 x1 x2 x3 x4 x5 s0 M) L 88 [.int s0] M := by
  intro x1 x2 x3 x4 x5 s0 M L hL
  unfold f_X7_bears_88
  refine KF.locals (lsub_le hL) ?_
  refine k_istore (L' := [some (.ref (ad 218)), some (.int x1), some (.int x2), some (.int x3), some (.int x4), some (.int x5), none, some (.int s0)]) hX (by decide) rfl dX7_bears_88 ?_
  refine k_iload_n hX (i := 3) rfl rfl dX7_bears_90 ?_
  refine k_iload hX rfl dX7_bears_91 ?_
  refine k_if_eq (tgt := 100) hX dX7_bears_93 (by decide) (fun b1 => ?_) (fun b1 => ?_)
  · refine k_iconst (v := (nI 0)) hX rfl dX7_bears_100 ?_
    exact w_X7_bears_101 hX hk45 x1 x2 x4 x5 s0 (nI 0) x3 M ⟨rfl, rfl, rfl, rfl, rfl, rfl, trivial⟩
  refine k_iconst (v := (nI 1)) hX rfl dX7_bears_96 ?_
  refine k_goto (tgt := 101) hX dX7_bears_97 (by decide) ?_
  exact w_X7_bears_101 hX hk45 x1 x2 x4 x5 s0 (nI 1) x3 M ⟨rfl, rfl, rfl, rfl, rfl, rfl, trivial⟩
set_option maxHeartbeats 4000000 in
set_option maxRecDepth 100000 in
theorem w_X7_bears_135 {l : Launch} {G : GL} {ad : Nat → Nat} {MM : Mem} {X : CT} (hX : Cx l { frames := 9, cells := 0, slots := 0, locals := 212 } cX7_bears RX7 8 (some .int) G ad X) : ∀ (s0 : Int32) (M : Mem) {L : List (Option Value)}, lsub [none, none, none, none, none, none, none, none] L → KF l { frames := 9, cells := 0, slots := 0, locals := 212 } 8 G ad (EM G ad MM) (QP PostI G ad (EM G ad MM)) X (f_X7_bears_135 s0 M) L 135 [.int s0] M := by
  intro s0 M L hL
  unfold f_X7_bears_135
  refine KF.locals (lsub_le hL) ?_
  exact k_iret hX dX7_bears_135
set_option maxHeartbeats 4000000 in
set_option maxRecDepth 100000 in
theorem w_X7_bears_45 {l : Launch} {G : GL} {ad : Nat → Nat} {MM : Mem} {X : CT} (hX : Cx l { frames := 9, cells := 0, slots := 0, locals := 212 } cX7_bears RX7 8 (some .int) G ad X) : ∀ (n : Nat), ∀ (x1 : Int32) (x2 : Int32) (x3 : Int32) (x4 : Int32) (x5 : Int32) (M : Mem) {L : List (Option Value)}, lsub [some (.ref (ad 218)), some (.int x1), some (.int x2), some (.int x3), some (.int x4), some (.int x5), none, none] L → KF l { frames := 9, cells := 0, slots := 0, locals := 212 } 8 G ad (EM G ad MM) (QP PostI G ad (EM G ad MM)) X (f_X7_bears_45 n x1 x2 x3 x4 x5 M) L 45 [] M := by
  intro n
  induction n with
  | zero =>
    intro x1 x2 x3 x4 x5 M L hL
    exact KF.none'
  | succ n ih =>
    intro x1 x2 x3 x4 x5 M L hL
    rw [f_X7_bears_45]
    refine KF.locals (lsub_le hL) ?_
    refine k_iload hX rfl dX7_bears_45 ?_
    refine k_if_lt (tgt := 123) hX dX7_bears_47 (by decide) (fun b1 => ?_) (fun b1 => ?_)
    · refine k_iload_n hX (i := 2) rfl rfl dX7_bears_123 ?_
      refine k_iconst (v := (nI 2)) hX rfl dX7_bears_124 ?_
      refine k_irem hX (by decide) dX7_bears_125 ?_
      refine k_if_ne (tgt := 133) hX dX7_bears_126 (by decide) (fun b2 => ?_) (fun b2 => ?_)
      · refine k_iload hX rfl dX7_bears_133 ?_
        exact w_X7_bears_135 hX x4 M trivial
      refine k_iload_n hX (i := 3) rfl rfl dX7_bears_129 ?_
      refine k_goto (tgt := 135) hX dX7_bears_130 (by decide) ?_
      exact w_X7_bears_135 hX x3 M trivial
    refine k_aload_n hX (i := 0) rfl rfl dX7_bears_50 ?_
    refine k_iload_n hX (i := 1) rfl rfl dX7_bears_51 ?_
    refine k_iload hX rfl dX7_bears_52 ?_
    refine k_callVI (vs := [.int x1, .int x5]) hX (fun _ h9 => m_X7_wouldBe hX.2.2.2.2.2.2.1  h9) io_218 rfl ml_X7_171 ⟨Nat.le_of_ble_eq_true rfl, Nat.le_of_ble_eq_true rfl⟩ rfl rfl (Nat.le_of_ble_eq_true rfl) dX7_bears_54 (fun q3 => ?_)
    refine k_istore (L' := [some (.ref (ad 218)), some (.int x1), some (.int x2), some (.int x3), some (.int x4), some (.int x5), some (.int q3.1), none]) hX (by decide) rfl dX7_bears_57 ?_
    refine k_iload_n hX (i := 2) rfl rfl dX7_bears_59 ?_
    refine k_iconst (v := (nI 2)) hX rfl dX7_bears_60 ?_
    refine k_icmp_ge (tgt := 77) hX dX7_bears_61 (by decide) (fun b4 => ?_) (fun b4 => ?_)
    · refine k_iload hX rfl dX7_bears_77 ?_
      refine k_iconst (v := (nI 1)) hX rfl dX7_bears_79 ?_
      refine k_icmp_ne (tgt := 87) hX dX7_bears_80 (by decide) (fun b5 => ?_) (fun b5 => ?_)
      · refine k_iconst (v := (nI 0)) hX rfl dX7_bears_87 ?_
        exact w_X7_bears_88 hX ih x1 x2 x3 x4 x5 (nI 0) q3.2 ⟨rfl, rfl, rfl, rfl, rfl, rfl, trivial⟩
      refine k_iconst (v := (nI 1)) hX rfl dX7_bears_83 ?_
      refine k_goto (tgt := 88) hX dX7_bears_84 (by decide) ?_
      exact w_X7_bears_88 hX ih x1 x2 x3 x4 x5 (nI 1) q3.2 ⟨rfl, rfl, rfl, rfl, rfl, rfl, trivial⟩
    refine k_iload hX rfl dX7_bears_64 ?_
    refine k_if_eq (tgt := 73) hX dX7_bears_66 (by decide) (fun b6 => ?_) (fun b6 => ?_)
    · refine k_iconst (v := (nI 0)) hX rfl dX7_bears_73 ?_
      refine k_goto (tgt := 88) hX dX7_bears_74 (by decide) ?_
      exact w_X7_bears_88 hX ih x1 x2 x3 x4 x5 (nI 0) q3.2 ⟨rfl, rfl, rfl, rfl, rfl, rfl, trivial⟩
    refine k_iconst (v := (nI 1)) hX rfl dX7_bears_69 ?_
    refine k_goto (tgt := 88) hX dX7_bears_70 (by decide) ?_
    exact w_X7_bears_88 hX ih x1 x2 x3 x4 x5 (nI 1) q3.2 ⟨rfl, rfl, rfl, rfl, rfl, rfl, trivial⟩
set_option maxHeartbeats 4000000 in
set_option maxRecDepth 100000 in
theorem w_X7_bears {l : Launch} {G : GL} {ad : Nat → Nat} {MM : Mem} {X : CT} (hX : Cx l { frames := 9, cells := 0, slots := 0, locals := 212 } cX7_bears RX7 8 (some .int) G ad X) {p1 : Int32} {p2 : Int32} {M : Mem} : KF l { frames := 9, cells := 0, slots := 0, locals := 212 } 8 G ad (EM G ad MM) (QP PostI G ad (EM G ad MM)) X (f_X7_bears p1 p2 M) [some (.ref (ad 218)), some (.int p1), some (.int p2), none, none, none, none, none] 0 [] M := by
  unfold f_X7_bears
  refine k_aload_n hX (i := 0) rfl rfl dX7_bears_0 ?_
  refine k_iload_n hX (i := 1) rfl rfl dX7_bears_1 ?_
  refine k_callVI (vs := [.int p1]) hX (fun _ h9 => m_X7_isThere hX.2.2.2.2.2.2.1  h9) io_218 rfl ml_X7_174 ⟨Nat.le_of_ble_eq_true rfl, Nat.le_of_ble_eq_true rfl⟩ rfl rfl (Nat.le_of_ble_eq_true rfl) dX7_bears_2 (fun q1 => ?_)
  refine k_if_ne (tgt := 10) hX dX7_bears_5 (by decide) (fun b2 => ?_) (fun b2 => ?_)
  · refine k_iload_n hX (i := 2) rfl rfl dX7_bears_10 ?_
    refine k_iconst (v := (nI 0)) hX rfl dX7_bears_11 ?_
    refine k_iconst (v := (nI 3)) hX rfl dX7_bears_12 ?_
    refine k_callSI (vs := [.int p2, .int (nI 0), .int (nI 3)]) hX (fun _ h9 => m_X7_in hX.2.2.2.2.2.2.1  h9) ml_X7_70 ⟨Nat.le_of_ble_eq_true rfl, Nat.le_of_ble_eq_true rfl⟩ rfl rfl (Nat.le_of_ble_eq_true rfl) dX7_bears_13 (fun q3 => ?_)
    refine k_if_ne (tgt := 22) hX dX7_bears_16 (by decide) (fun b4 => ?_) (fun b4 => ?_)
    · refine k_aload_n hX (i := 0) rfl rfl dX7_bears_22 ?_
      refine k_get hX io_218 fl_X7_7 rfl dX7_bears_23 ?_
      refine k_iconst (v := (nI 1)) hX rfl dX7_bears_26 ?_
      refine k_ald hX ia_219 dX7_bears_27 (fun v5 => ?_)
      refine k_iconst (v := (nI 1)) hX rfl dX7_bears_28 ?_
      refine k_icmp_ne (tgt := 35) hX dX7_bears_29 (by decide) (fun b6 => ?_) (fun b6 => ?_)
      · refine k_iconst (v := (nI 0)) hX rfl dX7_bears_35 ?_
        refine k_istore_n (L' := [some (.ref (ad 218)), some (.int p1), some (.int p2), some (.int (nI 0)), none, none, none, none]) hX (i := 3) rfl (by decide) rfl dX7_bears_36 ?_
        refine k_bipush (v := (-5)) hX rfl dX7_bears_37 ?_
        refine k_istore (L' := [some (.ref (ad 218)), some (.int p1), some (.int p2), some (.int (nI 0)), some (.int (-5)), none, none, none]) hX (by decide) rfl dX7_bears_39 ?_
        refine k_bipush (v := (nI 63)) hX rfl dX7_bears_41 ?_
        refine k_istore (L' := [some (.ref (ad 218)), some (.int p1), some (.int p2), some (.int (nI 0)), some (.int (-5)), some (.int (nI 63)), none, none]) hX (by decide) rfl dX7_bears_43 ?_
        exact w_X7_bears_45 hX fuelN p1 p2 (nI 0) (-5) (nI 63) q3.2 ⟨rfl, rfl, rfl, rfl, rfl, rfl, trivial⟩
      refine k_bipush (v := (-4)) hX rfl dX7_bears_32 ?_
      exact k_iret hX dX7_bears_34
    refine k_bipush (v := (-2)) hX rfl dX7_bears_19 ?_
    exact k_iret hX dX7_bears_21
  refine k_iconst (v := (-1)) hX rfl dX7_bears_8 ?_
  exact k_iret hX dX7_bears_9
set_option maxRecDepth 100000 in
theorem m_X7_bears {l : Launch} {G : GL} {ad : Nat → Nat} {MM : Mem} (hAd : AdOK G ad) {p1 : Int32} {p2 : Int32} {M : Mem} {r : Rv} (h : f_X7_bears p1 p2 M = some r) : Ct PostI l G ad (EM G ad MM) yX7_bears cX7_bears 8 (some .int) 9 212 [.ref (ad 218), .int p1, .int p2] M r := ct_of' hAd (by decide +kernel) (List.forall_mem_cons.mpr ⟨rfl, (List.forall_mem_cons.mpr ⟨rfl, (List.forall_mem_cons.mpr ⟨rfl, (fun _ h => absurd h List.not_mem_nil)⟩)⟩)⟩) (Nat.le_of_ble_eq_true rfl) (L := [some (.ref (ad 218)), some (.int p1), some (.int p2), none, none, none, none, none]) rfl (fun _ hX => w_X7_bears hX) h
