set_option maxHeartbeats 4000000 in
set_option maxRecDepth 100000 in
theorem w_L_cell_20 {l : Launch} {G : GL} {ad : Nat → Nat} {MM : Mem} {X : CT} (hX : Cx l { frames := 0, cells := 0, slots := 0, locals := 0 } cL_cell RL 2 (some .int) G ad X) : ∀ (s0 : Int32) (M : Mem) {L : List (Option Value)}, lsub [none, none] L → KF l { frames := 0, cells := 0, slots := 0, locals := 0 } 2 G ad (EC G ad MM) (QP PostI G ad (EC G ad MM)) X (f_L_cell_20 s0 M) L 20 [.int s0] M := by
  intro s0 M L hL
  unfold f_L_cell_20
  refine KF.locals (lsub_le hL) ?_
  refine k_ldc (v := nI 2147483647) hX (mem_big 571 (by decide +kernel) rfl) dL_cell_20 ?_
  refine k_iand hX dL_cell_22 ?_
  exact k_iret hX dL_cell_23
set_option maxHeartbeats 4000000 in
set_option maxRecDepth 100000 in
theorem w_L_cell {l : Launch} {G : GL} {ad : Nat → Nat} {MM : Mem} {X : CT} (hX : Cx l { frames := 0, cells := 0, slots := 0, locals := 0 } cL_cell RL 2 (some .int) G ad X) {p1 : Scr} {p2 : Int32} (hp1 : p1 = G.2.2.2.2.2.2) {M : Mem} : KF l { frames := 0, cells := 0, slots := 0, locals := 0 } 2 G ad (EC G ad MM) (QP PostI G ad (EC G ad MM)) X (f_L_cell p1 p2 M) [some (.ref G.2.2.2.2.2.1), some (.int p2)] 0 [] M := by
  unfold f_L_cell
  refine k_iload_n hX (i := 1) rfl rfl dL_cell_0 ?_
  refine k_aload_n hX (i := 0) rfl rfl dL_cell_1 ?_
  refine k_scalen hX hp1 dL_cell_2 ?_
  refine k_icmp_ge (tgt := 12) hX dL_cell_3 (by decide) (fun b1 => ?_) (fun b1 => ?_)
  · refine k_ldc (v := nI 15485959) hX (mem_big 570 (by decide +kernel) rfl) dL_cell_12 ?_
    refine k_iload_n hX (i := 1) rfl rfl dL_cell_14 ?_
    refine k_imul hX dL_cell_15 ?_
    refine k_sipush (v := (nI 2231)) hX rfl dL_cell_16 ?_
    refine k_iadd hX dL_cell_19 ?_
    exact w_L_cell_20 hX (((nI 15485959) * p2) + (nI 2231)) M trivial
  refine k_aload_n hX (i := 0) rfl rfl dL_cell_6 ?_
  refine k_iload_n hX (i := 1) rfl rfl dL_cell_7 ?_
  refine k_scald hX hp1 dL_cell_8 (fun v2 => ?_)
  refine k_goto (tgt := 20) hX dL_cell_9 (by decide) ?_
  exact w_L_cell_20 hX v2 M trivial
set_option maxRecDepth 100000 in
theorem m_L_cell {l : Launch} {G : GL} {ad : Nat → Nat} {MM : Mem} (hAd : AdOK G ad) {p1 : Scr} {p2 : Int32} (hp1 : p1 = G.2.2.2.2.2.2) {M : Mem} {r : Rv} (h : f_L_cell p1 p2 M = some r) : Ct PostI l G ad (EC G ad MM) yL_cell cL_cell 2 (some .int) 0 0 [.ref G.2.2.2.2.2.1, .int p2] M r := ct_of' hAd (by decide +kernel) (List.forall_mem_cons.mpr ⟨rfl, (List.forall_mem_cons.mpr ⟨rfl, (fun _ h => absurd h List.not_mem_nil)⟩)⟩) (Nat.le_of_ble_eq_true rfl) (L := [some (.ref G.2.2.2.2.2.1), some (.int p2)]) rfl (fun _ hX => w_L_cell hX hp1) h
set_option maxHeartbeats 4000000 in
set_option maxRecDepth 100000 in
theorem w_L_thing_83 {l : Launch} {G : GL} {ad : Nat → Nat} {MM : Mem} {X : CT} (hX : Cx l { frames := 2, cells := 0, slots := 0, locals := 42 } cL_thing RL 5 (some .boolean) G ad X) {k4 : Int32 → Int32 → Int32 → Mem → Option Rv} (hk4 : ∀ (x1 : Int32) (x2 : Int32) (x3 : Int32) (M : Mem) {L : List (Option Value)}, lsub [some (.ref (ad 0)), some (.int x1), some (.int x2), some (.int x3), none] L → KF l { frames := 2, cells := 0, slots := 0, locals := 42 } 5 G ad (EC G ad MM) (QP PostI G ad (EC G ad MM)) X (k4 x1 x2 x3 M) L 4 [] M) : ∀ (x1 : Int32) (x3 : Int32) (s0 : Int32) (M : Mem) {L : List (Option Value)}, lsub [some (.ref (ad 0)), some (.int x1), none, some (.int x3), none] L → KF l { frames := 2, cells := 0, slots := 0, locals := 42 } 5 G ad (EC G ad MM) (QP PostI G ad (EC G ad MM)) X (f_L_thing_83 k4 x1 x3 s0 M) L 83 [.int s0] M := by
  intro x1 x3 s0 M L hL
  unfold f_L_thing_83
  refine KF.locals (lsub_le hL) ?_
  refine k_istore_n (L' := [some (.ref (ad 0)), some (.int x1), some (.int s0), some (.int x3), none]) hX (i := 2) rfl (by decide) rfl dL_thing_83 ?_
  refine k_iinc (v := x3 + nI 1) (L' := [some (.ref (ad 0)), some (.int x1), some (.int s0), some (.int (x3 + nI 1)), none]) hX (i := 3) rfl rfl (by decide) rfl dL_thing_84 ?_
  refine k_goto (tgt := 4) hX dL_thing_87 (by decide) ?_
  exact hk4 x1 s0 (x3 + nI 1) M ⟨rfl, rfl, rfl, rfl, trivial⟩
set_option maxHeartbeats 4000000 in
set_option maxRecDepth 100000 in
theorem w_L_thing_72 {l : Launch} {G : GL} {ad : Nat → Nat} {MM : Mem} {X : CT} (hX : Cx l { frames := 2, cells := 0, slots := 0, locals := 42 } cL_thing RL 5 (some .boolean) G ad X) {k4 : Int32 → Int32 → Int32 → Mem → Option Rv} (hk4 : ∀ (x1 : Int32) (x2 : Int32) (x3 : Int32) (M : Mem) {L : List (Option Value)}, lsub [some (.ref (ad 0)), some (.int x1), some (.int x2), some (.int x3), none] L → KF l { frames := 2, cells := 0, slots := 0, locals := 42 } 5 G ad (EC G ad MM) (QP PostI G ad (EC G ad MM)) X (k4 x1 x2 x3 M) L 4 [] M) : ∀ (x1 : Int32) (x3 : Int32) (s0 : Int32) (M : Mem) {L : List (Option Value)}, lsub [some (.ref (ad 0)), some (.int x1), none, some (.int x3), none] L → KF l { frames := 2, cells := 0, slots := 0, locals := 42 } 5 G ad (EC G ad MM) (QP PostI G ad (EC G ad MM)) X (f_L_thing_72 k4 x1 x3 s0 M) L 72 [.int s0, .ref (ad 0)] M := by
  intro x1 x3 s0 M L hL
  unfold f_L_thing_72
  refine KF.locals (lsub_le hL) ?_
  refine k_callVI (vs := [.int s0]) hX (fun _ h9 => m_X6_type hX.2.2.2.2.2.2.1  h9) io_0 rfl ml_L_9 ⟨Nat.le_of_ble_eq_true rfl, Nat.le_of_ble_eq_true rfl⟩ rfl rfl (Nat.le_of_ble_eq_true rfl) dL_thing_72 (fun q1 => ?_)
  refine k_if_le (tgt := 82) hX dL_thing_75 (by decide) (fun b2 => ?_) (fun b2 => ?_)
  · refine k_iconst (v := (nI 0)) hX rfl dL_thing_82 ?_
    exact w_L_thing_83 hX hk4 x1 x3 (nI 0) q1.2 ⟨rfl, rfl, rfl, trivial⟩
  refine k_iconst (v := (nI 1)) hX rfl dL_thing_78 ?_
  refine k_goto (tgt := 83) hX dL_thing_79 (by decide) ?_
  exact w_L_thing_83 hX hk4 x1 x3 (nI 1) q1.2 ⟨rfl, rfl, rfl, trivial⟩
set_option maxHeartbeats 4000000 in
set_option maxRecDepth 100000 in
theorem w_L_thing_116 {l : Launch} {G : GL} {ad : Nat → Nat} {MM : Mem} {X : CT} (hX : Cx l { frames := 2, cells := 0, slots := 0, locals := 42 } cL_thing RL 5 (some .boolean) G ad X) : ∀ (s0 : Int32) (M : Mem) {L : List (Option Value)}, lsub [none, none, none, none, none] L → KF l { frames := 2, cells := 0, slots := 0, locals := 42 } 5 G ad (EC G ad MM) (QP PostI G ad (EC G ad MM)) X (f_L_thing_116 s0 M) L 116 [.int s0] M := by
  intro s0 M L hL
  unfold f_L_thing_116
  refine KF.locals (lsub_le hL) ?_
  exact k_zret hX dL_thing_116
set_option maxHeartbeats 4000000 in
set_option maxRecDepth 100000 in
theorem w_L_thing_115 {l : Launch} {G : GL} {ad : Nat → Nat} {MM : Mem} {X : CT} (hX : Cx l { frames := 2, cells := 0, slots := 0, locals := 42 } cL_thing RL 5 (some .boolean) G ad X) : ∀ (M : Mem) {L : List (Option Value)}, lsub [none, none, none, none, none] L → KF l { frames := 2, cells := 0, slots := 0, locals := 42 } 5 G ad (EC G ad MM) (QP PostI G ad (EC G ad MM)) X (f_L_thing_115 M) L 115 [] M := by
  intro M L hL
  unfold f_L_thing_115
  refine KF.locals (lsub_le hL) ?_
  refine k_iconst (v := (nI 0)) hX rfl dL_thing_115 ?_
  exact w_L_thing_116 hX (nI 0) M trivial
set_option maxHeartbeats 4000000 in
set_option maxRecDepth 100000 in
theorem w_L_thing_90 {l : Launch} {G : GL} {ad : Nat → Nat} {MM : Mem} {X : CT} (hX : Cx l { frames := 2, cells := 0, slots := 0, locals := 42 } cL_thing RL 5 (some .boolean) G ad X) : ∀ (x1 : Int32) (x2 : Int32) (M : Mem) {L : List (Option Value)}, lsub [some (.ref (ad 0)), some (.int x1), some (.int x2), none, none] L → KF l { frames := 2, cells := 0, slots := 0, locals := 42 } 5 G ad (EC G ad MM) (QP PostI G ad (EC G ad MM)) X (f_L_thing_90 x1 x2 M) L 90 [] M := by
  intro x1 x2 M L hL
  unfold f_L_thing_90
  refine KF.locals (lsub_le hL) ?_
  refine k_iload_n hX (i := 2) rfl rfl dL_thing_90 ?_
  refine k_if_eq (tgt := 115) hX dL_thing_91 (by decide) (fun b1 => ?_) (fun b1 => ?_)
  · exact w_L_thing_115 hX M trivial
  refine k_aload_n hX (i := 0) rfl rfl dL_thing_94 ?_
  refine k_bipush (v := (nI 97)) hX rfl dL_thing_95 ?_
  refine k_iload_n hX (i := 1) rfl rfl dL_thing_97 ?_
  refine k_bipush (v := (nI 9)) hX rfl dL_thing_98 ?_
  refine k_ishr hX dL_thing_100 ?_
  refine k_iconst (v := (nI 4)) hX rfl dL_thing_101 ?_
  refine k_irem hX (by decide) dL_thing_102 ?_
  refine k_iadd hX dL_thing_103 ?_
  refine k_i2c hX dL_thing_104 ?_
  refine k_callVI (vs := [.int (mi2c ((nI 97) + ((x1 >>> ((nI 9) &&& nI 31)) - (x1 >>> ((nI 9) &&& nI 31)) / (nI 4) * (nI 4))))]) hX (fun _ h9 => m_X6_type hX.2.2.2.2.2.2.1  h9) io_0 rfl ml_L_9 ⟨Nat.le_of_ble_eq_true rfl, Nat.le_of_ble_eq_true rfl⟩ rfl rfl (Nat.le_of_ble_eq_true rfl) dL_thing_105 (fun q2 => ?_)
  refine k_if_le (tgt := 115) hX dL_thing_108 (by decide) (fun b3 => ?_) (fun b3 => ?_)
  · exact w_L_thing_115 hX q2.2 trivial
  refine k_iconst (v := (nI 1)) hX rfl dL_thing_111 ?_
  refine k_goto (tgt := 116) hX dL_thing_112 (by decide) ?_
  exact w_L_thing_116 hX (nI 1) q2.2 trivial
set_option maxHeartbeats 4000000 in
set_option maxRecDepth 100000 in
theorem w_L_thing_4 {l : Launch} {G : GL} {ad : Nat → Nat} {MM : Mem} {X : CT} (hX : Cx l { frames := 2, cells := 0, slots := 0, locals := 42 } cL_thing RL 5 (some .boolean) G ad X) : ∀ (n : Nat), ∀ (x1 : Int32) (x2 : Int32) (x3 : Int32) (M : Mem) {L : List (Option Value)}, lsub [some (.ref (ad 0)), some (.int x1), some (.int x2), some (.int x3), none] L → KF l { frames := 2, cells := 0, slots := 0, locals := 42 } 5 G ad (EC G ad MM) (QP PostI G ad (EC G ad MM)) X (f_L_thing_4 n x1 x2 x3 M) L 4 [] M := by
  intro n
  induction n with
  | zero =>
    intro x1 x2 x3 M L hL
    exact KF.none'
  | succ n ih =>
    intro x1 x2 x3 M L hL
    rw [f_L_thing_4]
    refine KF.locals (lsub_le hL) ?_
    refine k_iload_n hX (i := 3) rfl rfl dL_thing_4 ?_
    refine k_iload_n hX (i := 1) rfl rfl dL_thing_5 ?_
    refine k_iconst (v := (nI 3)) hX rfl dL_thing_6 ?_
    refine k_irem hX (by decide) dL_thing_7 ?_
    refine k_icmp_ge (tgt := 90) hX dL_thing_8 (by decide) (fun b1 => ?_) (fun b1 => ?_)
    · exact w_L_thing_90 hX x1 x2 M ⟨rfl, rfl, rfl, trivial⟩
    refine k_iload_n hX (i := 2) rfl rfl dL_thing_11 ?_
    refine k_if_eq (tgt := 90) hX dL_thing_12 (by decide) (fun b2 => ?_) (fun b2 => ?_)
    · exact w_L_thing_90 hX x1 x2 M ⟨rfl, rfl, rfl, trivial⟩
    refine k_iload_n hX (i := 1) rfl rfl dL_thing_15 ?_
    refine k_iconst (v := (nI 2)) hX rfl dL_thing_16 ?_
    refine k_iconst (v := (nI 3)) hX rfl dL_thing_17 ?_
    refine k_iload_n hX (i := 3) rfl rfl dL_thing_18 ?_
    refine k_imul hX dL_thing_19 ?_
    refine k_iadd hX dL_thing_20 ?_
    refine k_ishr hX dL_thing_21 ?_
    refine k_iconst (v := (nI 5)) hX rfl dL_thing_22 ?_
    refine k_irem hX (by decide) dL_thing_23 ?_
    refine k_istore (L' := [some (.ref (ad 0)), some (.int x1), some (.int x2), some (.int x3), some (.int ((x1 >>> (((nI 2) + ((nI 3) * x3)) &&& nI 31)) - (x1 >>> (((nI 2) + ((nI 3) * x3)) &&& nI 31)) / (nI 5) * (nI 5)))]) hX (by decide) rfl dL_thing_24 ?_
    refine k_aload_n hX (i := 0) rfl rfl dL_thing_26 ?_
    refine k_iload hX rfl dL_thing_27 ?_
    refine k_if_ne (tgt := 37) hX dL_thing_29 (by decide) (fun b3 => ?_) (fun b3 => ?_)
    · refine k_iload hX rfl dL_thing_37 ?_
      refine k_iconst (v := (nI 1)) hX rfl dL_thing_39 ?_
      refine k_icmp_ne (tgt := 48) hX dL_thing_40 (by decide) (fun b4 => ?_) (fun b4 => ?_)
      · refine k_iload hX rfl dL_thing_48 ?_
        refine k_iconst (v := (nI 2)) hX rfl dL_thing_50 ?_
        refine k_icmp_ne (tgt := 59) hX dL_thing_51 (by decide) (fun b5 => ?_) (fun b5 => ?_)
        · refine k_iload hX rfl dL_thing_59 ?_
          refine k_iconst (v := (nI 3)) hX rfl dL_thing_61 ?_
          refine k_icmp_ne (tgt := 70) hX dL_thing_62 (by decide) (fun b6 => ?_) (fun b6 => ?_)
          · refine k_bipush (v := (nI 70)) hX rfl dL_thing_70 ?_
            exact w_L_thing_72 hX ih x1 x3 (nI 70) M ⟨rfl, rfl, rfl, trivial⟩
          refine k_bipush (v := (nI 71)) hX rfl dL_thing_65 ?_
          refine k_goto (tgt := 72) hX dL_thing_67 (by decide) ?_
          exact w_L_thing_72 hX ih x1 x3 (nI 71) M ⟨rfl, rfl, rfl, trivial⟩
        refine k_bipush (v := (nI 78)) hX rfl dL_thing_54 ?_
        refine k_goto (tgt := 72) hX dL_thing_56 (by decide) ?_
        exact w_L_thing_72 hX ih x1 x3 (nI 78) M ⟨rfl, rfl, rfl, trivial⟩
      refine k_bipush (v := (nI 88)) hX rfl dL_thing_43 ?_
      refine k_goto (tgt := 72) hX dL_thing_45 (by decide) ?_
      exact w_L_thing_72 hX ih x1 x3 (nI 88) M ⟨rfl, rfl, rfl, trivial⟩
    refine k_bipush (v := (nI 33)) hX rfl dL_thing_32 ?_
    refine k_goto (tgt := 72) hX dL_thing_34 (by decide) ?_
    exact w_L_thing_72 hX ih x1 x3 (nI 33) M ⟨rfl, rfl, rfl, trivial⟩
set_option maxHeartbeats 4000000 in
set_option maxRecDepth 100000 in
theorem w_L_thing {l : Launch} {G : GL} {ad : Nat → Nat} {MM : Mem} {X : CT} (hX : Cx l { frames := 2, cells := 0, slots := 0, locals := 42 } cL_thing RL 5 (some .boolean) G ad X) {p2 : Int32} {M : Mem} : KF l { frames := 2, cells := 0, slots := 0, locals := 42 } 5 G ad (EC G ad MM) (QP PostI G ad (EC G ad MM)) X (f_L_thing p2 M) [some (.ref (ad 0)), some (.int p2), none, none, none] 0 [] M := by
  unfold f_L_thing
  refine k_iconst (v := (nI 1)) hX rfl dL_thing_0 ?_
  refine k_istore_n (L' := [some (.ref (ad 0)), some (.int p2), some (.int (nI 1)), none, none]) hX (i := 2) rfl (by decide) rfl dL_thing_1 ?_
  refine k_iconst (v := (nI 0)) hX rfl dL_thing_2 ?_
  refine k_istore_n (L' := [some (.ref (ad 0)), some (.int p2), some (.int (nI 1)), some (.int (nI 0)), none]) hX (i := 3) rfl (by decide) rfl dL_thing_3 ?_
  exact w_L_thing_4 hX fuelN p2 (nI 1) (nI 0) M ⟨rfl, rfl, rfl, rfl, trivial⟩
set_option maxRecDepth 100000 in
theorem m_L_thing {l : Launch} {G : GL} {ad : Nat → Nat} {MM : Mem} (hAd : AdOK G ad) {p2 : Int32} {M : Mem} {r : Rv} (h : f_L_thing p2 M = some r) : Ct PostI l G ad (EC G ad MM) yL_thing cL_thing 5 (some .boolean) 2 42 [.ref (ad 0), .int p2] M r := ct_of' hAd (by decide +kernel) (List.forall_mem_cons.mpr ⟨rfl, (List.forall_mem_cons.mpr ⟨rfl, (fun _ h => absurd h List.not_mem_nil)⟩)⟩) (Nat.le_of_ble_eq_true rfl) (L := [some (.ref (ad 0)), some (.int p2), none, none, none]) rfl (fun _ hX => w_L_thing hX) h
set_option maxHeartbeats 4000000 in
set_option maxRecDepth 100000 in
theorem w_L_between_37 {l : Launch} {G : GL} {ad : Nat → Nat} {MM : Mem} {X : CT} (hX : Cx l { frames := 0, cells := 0, slots := 0, locals := 0 } cL_between RL 1 (some .char) G ad X) : ∀ (s0 : Int32) (M : Mem) {L : List (Option Value)}, lsub [none] L → KF l { frames := 0, cells := 0, slots := 0, locals := 0 } 1 G ad (EC G ad MM) (QP PostI G ad (EC G ad MM)) X (f_L_between_37 s0 M) L 37 [.int s0] M := by
  intro s0 M L hL
  unfold f_L_between_37
  refine KF.locals (lsub_le hL) ?_
  exact k_cret hX dL_between_37
set_option maxHeartbeats 4000000 in
set_option maxRecDepth 100000 in
theorem w_L_between {l : Launch} {G : GL} {ad : Nat → Nat} {MM : Mem} {X : CT} (hX : Cx l { frames := 0, cells := 0, slots := 0, locals := 0 } cL_between RL 1 (some .char) G ad X) {p1 : Int32} {M : Mem} : KF l { frames := 0, cells := 0, slots := 0, locals := 0 } 1 G ad (EC G ad MM) (QP PostI G ad (EC G ad MM)) X (f_L_between p1 M) [some (.int p1)] 0 [] M := by
  unfold f_L_between
  refine k_iload_n hX (i := 0) rfl rfl dL_between_0 ?_
  refine k_iconst (v := (nI 4)) hX rfl dL_between_1 ?_
  refine k_irem hX (by decide) dL_between_2 ?_
  refine k_if_ne (tgt := 11) hX dL_between_3 (by decide) (fun b1 => ?_) (fun b1 => ?_)
  · refine k_iload_n hX (i := 0) rfl rfl dL_between_11 ?_
    refine k_iconst (v := (nI 4)) hX rfl dL_between_12 ?_
    refine k_irem hX (by decide) dL_between_13 ?_
    refine k_iconst (v := (nI 1)) hX rfl dL_between_14 ?_
    refine k_icmp_ne (tgt := 23) hX dL_between_15 (by decide) (fun b2 => ?_) (fun b2 => ?_)
    · refine k_iload_n hX (i := 0) rfl rfl dL_between_23 ?_
      refine k_iconst (v := (nI 4)) hX rfl dL_between_24 ?_
      refine k_irem hX (by decide) dL_between_25 ?_
      refine k_iconst (v := (nI 2)) hX rfl dL_between_26 ?_
      refine k_icmp_ne (tgt := 35) hX dL_between_27 (by decide) (fun b3 => ?_) (fun b3 => ?_)
      · refine k_bipush (v := (nI 82)) hX rfl dL_between_35 ?_
        exact w_L_between_37 hX (nI 82) M trivial
      refine k_bipush (v := (nI 85)) hX rfl dL_between_30 ?_
      refine k_goto (tgt := 37) hX dL_between_32 (by decide) ?_
      exact w_L_between_37 hX (nI 85) M trivial
    refine k_bipush (v := (nI 38)) hX rfl dL_between_18 ?_
    refine k_goto (tgt := 37) hX dL_between_20 (by decide) ?_
    exact w_L_between_37 hX (nI 38) M trivial
  refine k_bipush (v := (nI 124)) hX rfl dL_between_6 ?_
  refine k_goto (tgt := 37) hX dL_between_8 (by decide) ?_
  exact w_L_between_37 hX (nI 124) M trivial
set_option maxRecDepth 100000 in
theorem m_L_between {l : Launch} {G : GL} {ad : Nat → Nat} {MM : Mem} (hAd : AdOK G ad) {p1 : Int32} {M : Mem} {r : Rv} (h : f_L_between p1 M = some r) : Ct PostI l G ad (EC G ad MM) yL_between cL_between 1 (some .char) 0 0 [.int p1] M r := ct_of' hAd (by decide +kernel) (List.forall_mem_cons.mpr ⟨rfl, (fun _ h => absurd h List.not_mem_nil)⟩) (Nat.le_of_ble_eq_true rfl) (L := [some (.int p1)]) rfl (fun _ hX => w_L_between hX) h
set_option maxHeartbeats 4000000 in
set_option maxRecDepth 100000 in
theorem w_L_types_140 {l : Launch} {G : GL} {ad : Nat → Nat} {MM : Mem} {X : CT} (hX : Cx l { frames := 3, cells := 0, slots := 0, locals := 66 } cL_types RL 3 (some .boolean) G ad X) : ∀ (s0 : Int32) (M : Mem) {L : List (Option Value)}, lsub [none, none, none] L → KF l { frames := 3, cells := 0, slots := 0, locals := 66 } 3 G ad (EC G ad MM) (QP PostI G ad (EC G ad MM)) X (f_L_types_140 s0 M) L 140 [.int s0] M := by
  intro s0 M L hL
  unfold f_L_types_140
  refine KF.locals (lsub_le hL) ?_
  exact k_zret hX dL_types_140
set_option maxHeartbeats 4000000 in
set_option maxRecDepth 100000 in
theorem w_L_types_135 {l : Launch} {G : GL} {ad : Nat → Nat} {MM : Mem} {X : CT} (hX : Cx l { frames := 3, cells := 0, slots := 0, locals := 66 } cL_types RL 3 (some .boolean) G ad X) : ∀ (M : Mem) {L : List (Option Value)}, lsub [none, none, none] L → KF l { frames := 3, cells := 0, slots := 0, locals := 66 } 3 G ad (EC G ad MM) (QP PostI G ad (EC G ad MM)) X (f_L_types_135 M) L 135 [] M := by
  intro M L hL
  unfold f_L_types_135
  refine KF.locals (lsub_le hL) ?_
  refine k_iconst (v := (nI 1)) hX rfl dL_types_135 ?_
  refine k_goto (tgt := 140) hX dL_types_136 (by decide) ?_
  exact w_L_types_140 hX (nI 1) M trivial
set_option maxHeartbeats 4000000 in
set_option maxRecDepth 100000 in
theorem w_L_types_139 {l : Launch} {G : GL} {ad : Nat → Nat} {MM : Mem} {X : CT} (hX : Cx l { frames := 3, cells := 0, slots := 0, locals := 66 } cL_types RL 3 (some .boolean) G ad X) : ∀ (M : Mem) {L : List (Option Value)}, lsub [none, none, none] L → KF l { frames := 3, cells := 0, slots := 0, locals := 66 } 3 G ad (EC G ad MM) (QP PostI G ad (EC G ad MM)) X (f_L_types_139 M) L 139 [] M := by
  intro M L hL
  unfold f_L_types_139
  refine KF.locals (lsub_le hL) ?_
  refine k_iconst (v := (nI 0)) hX rfl dL_types_139 ?_
  exact w_L_types_140 hX (nI 0) M trivial
set_option maxHeartbeats 4000000 in
set_option maxRecDepth 100000 in
theorem w_L_types_93 {l : Launch} {G : GL} {ad : Nat → Nat} {MM : Mem} {X : CT} (hX : Cx l { frames := 3, cells := 0, slots := 0, locals := 66 } cL_types RL 3 (some .boolean) G ad X) : ∀ (x1 : Int32) (s0 : Int32) (M : Mem) {L : List (Option Value)}, lsub [some (.ref (ad 0)), some (.int x1), none] L → KF l { frames := 3, cells := 0, slots := 0, locals := 66 } 3 G ad (EC G ad MM) (QP PostI G ad (EC G ad MM)) X (f_L_types_93 x1 s0 M) L 93 [.int s0] M := by
  intro x1 s0 M L hL
  unfold f_L_types_93
  refine KF.locals (lsub_le hL) ?_
  refine k_istore_n (L' := [some (.ref (ad 0)), some (.int x1), some (.int s0)]) hX (i := 2) rfl (by decide) rfl dL_types_93 ?_
  refine k_iload_n hX (i := 2) rfl rfl dL_types_94 ?_
  refine k_if_eq (tgt := 139) hX dL_types_95 (by decide) (fun b1 => ?_) (fun b1 => ?_)
  · exact w_L_types_139 hX M trivial
  refine k_iload_n hX (i := 1) rfl rfl dL_types_98 ?_
  refine k_bipush (v := (nI 15)) hX rfl dL_types_99 ?_
  refine k_ishr hX dL_types_101 ?_
  refine k_iconst (v := (nI 3)) hX rfl dL_types_102 ?_
  refine k_irem hX (by decide) dL_types_103 ?_
  refine k_if_eq (tgt := 135) hX dL_types_104 (by decide) (fun b2 => ?_) (fun b2 => ?_)
  · exact w_L_types_135 hX M trivial
  refine k_aload_n hX (i := 0) rfl rfl dL_types_107 ?_
  refine k_iload_n hX (i := 1) rfl rfl dL_types_108 ?_
  refine k_bipush (v := (nI 17)) hX rfl dL_types_109 ?_
  refine k_ishr hX dL_types_111 ?_
  refine k_callSI (vs := [.int (x1 >>> ((nI 17) &&& nI 31))]) hX (fun _ h9 => m_L_between hX.2.2.2.2.2.2.1  h9) ml_L_25 ⟨Nat.le_of_ble_eq_true rfl, Nat.le_of_ble_eq_true rfl⟩ rfl rfl (Nat.le_of_ble_eq_true rfl) dL_types_112 (fun q3 => ?_)
  refine k_callVI (vs := [.int q3.1]) hX (fun _ h9 => m_X6_type hX.2.2.2.2.2.2.1  h9) io_0 rfl ml_L_9 ⟨Nat.le_of_ble_eq_true rfl, Nat.le_of_ble_eq_true rfl⟩ rfl rfl (Nat.le_of_ble_eq_true rfl) dL_types_115 (fun q4 => ?_)
  refine k_if_le (tgt := 139) hX dL_types_118 (by decide) (fun b5 => ?_) (fun b5 => ?_)
  · exact w_L_types_139 hX q4.2 trivial
  refine k_aload_n hX (i := 0) rfl rfl dL_types_121 ?_
  refine k_iload_n hX (i := 1) rfl rfl dL_types_122 ?_
  refine k_bipush (v := (nI 11)) hX rfl dL_types_123 ?_
  refine k_ishr hX dL_types_125 ?_
  refine k_bipush (v := (nI 33)) hX rfl dL_types_126 ?_
  refine k_ixor hX dL_types_128 ?_
  refine k_callSI (vs := [.ref (ad 0), .int ((x1 >>> ((nI 11) &&& nI 31)) ^^^ (nI 33))]) hX (fun _ h9 => m_L_thing hX.2.2.2.2.2.2.1  h9) ml_L_19 ⟨Nat.le_of_ble_eq_true rfl, Nat.le_of_ble_eq_true rfl⟩ rfl rfl (Nat.le_of_ble_eq_true rfl) dL_types_129 (fun q6 => ?_)
  refine k_if_eq (tgt := 139) hX dL_types_132 (by decide) (fun b7 => ?_) (fun b7 => ?_)
  · exact w_L_types_139 hX q6.2 trivial
  exact w_L_types_135 hX q6.2 trivial
set_option maxHeartbeats 4000000 in
set_option maxRecDepth 100000 in
theorem w_L_types_88 {l : Launch} {G : GL} {ad : Nat → Nat} {MM : Mem} {X : CT} (hX : Cx l { frames := 3, cells := 0, slots := 0, locals := 66 } cL_types RL 3 (some .boolean) G ad X) : ∀ (x1 : Int32) (M : Mem) {L : List (Option Value)}, lsub [some (.ref (ad 0)), some (.int x1), none] L → KF l { frames := 3, cells := 0, slots := 0, locals := 66 } 3 G ad (EC G ad MM) (QP PostI G ad (EC G ad MM)) X (f_L_types_88 x1 M) L 88 [] M := by
  intro x1 M L hL
  unfold f_L_types_88
  refine KF.locals (lsub_le hL) ?_
  refine k_iconst (v := (nI 1)) hX rfl dL_types_88 ?_
  refine k_goto (tgt := 93) hX dL_types_89 (by decide) ?_
  exact w_L_types_93 hX x1 (nI 1) M ⟨rfl, rfl, trivial⟩
set_option maxHeartbeats 4000000 in
set_option maxRecDepth 100000 in
theorem w_L_types_92 {l : Launch} {G : GL} {ad : Nat → Nat} {MM : Mem} {X : CT} (hX : Cx l { frames := 3, cells := 0, slots := 0, locals := 66 } cL_types RL 3 (some .boolean) G ad X) : ∀ (x1 : Int32) (M : Mem) {L : List (Option Value)}, lsub [some (.ref (ad 0)), some (.int x1), none] L → KF l { frames := 3, cells := 0, slots := 0, locals := 66 } 3 G ad (EC G ad MM) (QP PostI G ad (EC G ad MM)) X (f_L_types_92 x1 M) L 92 [] M := by
  intro x1 M L hL
  unfold f_L_types_92
  refine KF.locals (lsub_le hL) ?_
  refine k_iconst (v := (nI 0)) hX rfl dL_types_92 ?_
  exact w_L_types_93 hX x1 (nI 0) M ⟨rfl, rfl, trivial⟩
set_option maxHeartbeats 4000000 in
set_option maxRecDepth 100000 in
theorem w_L_types_38 {l : Launch} {G : GL} {ad : Nat → Nat} {MM : Mem} {X : CT} (hX : Cx l { frames := 3, cells := 0, slots := 0, locals := 66 } cL_types RL 3 (some .boolean) G ad X) : ∀ (x1 : Int32) (s0 : Int32) (M : Mem) {L : List (Option Value)}, lsub [some (.ref (ad 0)), some (.int x1), none] L → KF l { frames := 3, cells := 0, slots := 0, locals := 66 } 3 G ad (EC G ad MM) (QP PostI G ad (EC G ad MM)) X (f_L_types_38 x1 s0 M) L 38 [.int s0] M := by
  intro x1 s0 M L hL
  unfold f_L_types_38
  refine KF.locals (lsub_le hL) ?_
  refine k_istore_n (L' := [some (.ref (ad 0)), some (.int x1), some (.int s0)]) hX (i := 2) rfl (by decide) rfl dL_types_38 ?_
  refine k_iload_n hX (i := 2) rfl rfl dL_types_39 ?_
  refine k_if_eq (tgt := 92) hX dL_types_40 (by decide) (fun b1 => ?_) (fun b1 => ?_)
  · exact w_L_types_92 hX x1 M ⟨rfl, rfl, trivial⟩
  refine k_aload_n hX (i := 0) rfl rfl dL_types_43 ?_
  refine k_iload_n hX (i := 1) rfl rfl dL_types_44 ?_
  refine k_bipush (v := (nI 12)) hX rfl dL_types_45 ?_
  refine k_ishr hX dL_types_47 ?_
  refine k_callSI (vs := [.int (x1 >>> ((nI 12) &&& nI 31))]) hX (fun _ h9 => m_L_between hX.2.2.2.2.2.2.1  h9) ml_L_25 ⟨Nat.le_of_ble_eq_true rfl, Nat.le_of_ble_eq_true rfl⟩ rfl rfl (Nat.le_of_ble_eq_true rfl) dL_types_48 (fun q2 => ?_)
  refine k_callVI (vs := [.int q2.1]) hX (fun _ h9 => m_X6_type hX.2.2.2.2.2.2.1  h9) io_0 rfl ml_L_9 ⟨Nat.le_of_ble_eq_true rfl, Nat.le_of_ble_eq_true rfl⟩ rfl rfl (Nat.le_of_ble_eq_true rfl) dL_types_51 (fun q3 => ?_)
  refine k_if_le (tgt := 92) hX dL_types_54 (by decide) (fun b4 => ?_) (fun b4 => ?_)
  · exact w_L_types_92 hX x1 q3.2 ⟨rfl, rfl, trivial⟩
  refine k_aload_n hX (i := 0) rfl rfl dL_types_57 ?_
  refine k_iload_n hX (i := 1) rfl rfl dL_types_58 ?_
  refine k_iconst (v := (nI 5)) hX rfl dL_types_59 ?_
  refine k_ishr hX dL_types_60 ?_
  refine k_bipush (v := (nI 77)) hX rfl dL_types_61 ?_
  refine k_ixor hX dL_types_63 ?_
  refine k_callSI (vs := [.ref (ad 0), .int ((x1 >>> ((nI 5) &&& nI 31)) ^^^ (nI 77))]) hX (fun _ h9 => m_L_thing hX.2.2.2.2.2.2.1  h9) ml_L_19 ⟨Nat.le_of_ble_eq_true rfl, Nat.le_of_ble_eq_true rfl⟩ rfl rfl (Nat.le_of_ble_eq_true rfl) dL_types_64 (fun q5 => ?_)
  refine k_if_eq (tgt := 92) hX dL_types_67 (by decide) (fun b6 => ?_) (fun b6 => ?_)
  · exact w_L_types_92 hX x1 q5.2 ⟨rfl, rfl, trivial⟩
  refine k_iload_n hX (i := 1) rfl rfl dL_types_70 ?_
  refine k_bipush (v := (nI 28)) hX rfl dL_types_71 ?_
  refine k_ishr hX dL_types_73 ?_
  refine k_iconst (v := (nI 2)) hX rfl dL_types_74 ?_
  refine k_irem hX (by decide) dL_types_75 ?_
  refine k_if_eq (tgt := 88) hX dL_types_76 (by decide) (fun b7 => ?_) (fun b7 => ?_)
  · exact w_L_types_88 hX x1 q5.2 ⟨rfl, rfl, trivial⟩
  refine k_aload_n hX (i := 0) rfl rfl dL_types_79 ?_
  refine k_bipush (v := (nI 41)) hX rfl dL_types_80 ?_
  refine k_callVI (vs := [.int (nI 41)]) hX (fun _ h9 => m_X6_type hX.2.2.2.2.2.2.1  h9) io_0 rfl ml_L_9 ⟨Nat.le_of_ble_eq_true rfl, Nat.le_of_ble_eq_true rfl⟩ rfl rfl (Nat.le_of_ble_eq_true rfl) dL_types_82 (fun q8 => ?_)
  refine k_if_le (tgt := 92) hX dL_types_85 (by decide) (fun b9 => ?_) (fun b9 => ?_)
  · exact w_L_types_92 hX x1 q8.2 ⟨rfl, rfl, trivial⟩
  exact w_L_types_88 hX x1 q8.2 ⟨rfl, rfl, trivial⟩
set_option maxHeartbeats 4000000 in
set_option maxRecDepth 100000 in
theorem w_L_types_37 {l : Launch} {G : GL} {ad : Nat → Nat} {MM : Mem} {X : CT} (hX : Cx l { frames := 3, cells := 0, slots := 0, locals := 66 } cL_types RL 3 (some .boolean) G ad X) : ∀ (x1 : Int32) (M : Mem) {L : List (Option Value)}, lsub [some (.ref (ad 0)), some (.int x1), none] L → KF l { frames := 3, cells := 0, slots := 0, locals := 66 } 3 G ad (EC G ad MM) (QP PostI G ad (EC G ad MM)) X (f_L_types_37 x1 M) L 37 [] M := by
  intro x1 M L hL
  unfold f_L_types_37
  refine KF.locals (lsub_le hL) ?_
  refine k_iconst (v := (nI 0)) hX rfl dL_types_37 ?_
  exact w_L_types_38 hX x1 (nI 0) M ⟨rfl, rfl, trivial⟩
set_option maxHeartbeats 4000000 in
set_option maxRecDepth 100000 in
theorem w_L_types_25 {l : Launch} {G : GL} {ad : Nat → Nat} {MM : Mem} {X : CT} (hX : Cx l { frames := 3, cells := 0, slots := 0, locals := 66 } cL_types RL 3 (some .boolean) G ad X) : ∀ (x1 : Int32) (M : Mem) {L : List (Option Value)}, lsub [some (.ref (ad 0)), some (.int x1), none] L → KF l { frames := 3, cells := 0, slots := 0, locals := 66 } 3 G ad (EC G ad MM) (QP PostI G ad (EC G ad MM)) X (f_L_types_25 x1 M) L 25 [] M := by
  intro x1 M L hL
  unfold f_L_types_25
  refine KF.locals (lsub_le hL) ?_
  refine k_aload_n hX (i := 0) rfl rfl dL_types_25 ?_
  refine k_iload_n hX (i := 1) rfl rfl dL_types_26 ?_
  refine k_callSI (vs := [.ref (ad 0), .int x1]) hX (fun _ h9 => m_L_thing hX.2.2.2.2.2.2.1  h9) ml_L_19 ⟨Nat.le_of_ble_eq_true rfl, Nat.le_of_ble_eq_true rfl⟩ rfl rfl (Nat.le_of_ble_eq_true rfl) dL_types_27 (fun q1 => ?_)
  refine k_if_eq (tgt := 37) hX dL_types_30 (by decide) (fun b2 => ?_) (fun b2 => ?_)
  · exact w_L_types_37 hX x1 q1.2 ⟨rfl, rfl, trivial⟩
  refine k_iconst (v := (nI 1)) hX rfl dL_types_33 ?_
  refine k_goto (tgt := 38) hX dL_types_34 (by decide) ?_
  exact w_L_types_38 hX x1 (nI 1) q1.2 ⟨rfl, rfl, trivial⟩
set_option maxHeartbeats 4000000 in
set_option maxRecDepth 100000 in
theorem w_L_types {l : Launch} {G : GL} {ad : Nat → Nat} {MM : Mem} {X : CT} (hX : Cx l { frames := 3, cells := 0, slots := 0, locals := 66 } cL_types RL 3 (some .boolean) G ad X) {p2 : Int32} {M : Mem} : KF l { frames := 3, cells := 0, slots := 0, locals := 66 } 3 G ad (EC G ad MM) (QP PostI G ad (EC G ad MM)) X (f_L_types p2 M) [some (.ref (ad 0)), some (.int p2), none] 0 [] M := by
  unfold f_L_types
  refine k_aload_n hX (i := 0) rfl rfl dL_types_0 ?_
  refine k_callVI (vs := []) hX (fun _ h9 => m_X6_clearText hX.2.2.2.2.2.2.1  h9) io_0 rfl ml_L_15 ⟨Nat.le_of_ble_eq_true rfl, Nat.le_of_ble_eq_true rfl⟩ rfl rfl (Nat.le_of_ble_eq_true rfl) dL_types_1 (fun q1 => ?_)
  refine k_if_lt (tgt := 37) hX dL_types_4 (by decide) (fun b2 => ?_) (fun b2 => ?_)
  · exact w_L_types_37 hX p2 q1.2 ⟨rfl, rfl, trivial⟩
  refine k_iload_n hX (i := 1) rfl rfl dL_types_7 ?_
  refine k_bipush (v := (nI 28)) hX rfl dL_types_8 ?_
  refine k_ishr hX dL_types_10 ?_
  refine k_iconst (v := (nI 2)) hX rfl dL_types_11 ?_
  refine k_irem hX (by decide) dL_types_12 ?_
  refine k_if_eq (tgt := 25) hX dL_types_13 (by decide) (fun b3 => ?_) (fun b3 => ?_)
  · exact w_L_types_25 hX p2 q1.2 ⟨rfl, rfl, trivial⟩
  refine k_aload_n hX (i := 0) rfl rfl dL_types_16 ?_
  refine k_bipush (v := (nI 40)) hX rfl dL_types_17 ?_
  refine k_callVI (vs := [.int (nI 40)]) hX (fun _ h9 => m_X6_type hX.2.2.2.2.2.2.1  h9) io_0 rfl ml_L_9 ⟨Nat.le_of_ble_eq_true rfl, Nat.le_of_ble_eq_true rfl⟩ rfl rfl (Nat.le_of_ble_eq_true rfl) dL_types_19 (fun q4 => ?_)
  refine k_if_le (tgt := 37) hX dL_types_22 (by decide) (fun b5 => ?_) (fun b5 => ?_)
  · exact w_L_types_37 hX p2 q4.2 ⟨rfl, rfl, trivial⟩
  exact w_L_types_25 hX p2 q4.2 ⟨rfl, rfl, trivial⟩
set_option maxRecDepth 100000 in
theorem m_L_types {l : Launch} {G : GL} {ad : Nat → Nat} {MM : Mem} (hAd : AdOK G ad) {p2 : Int32} {M : Mem} {r : Rv} (h : f_L_types p2 M = some r) : Ct PostI l G ad (EC G ad MM) yL_types cL_types 3 (some .boolean) 3 66 [.ref (ad 0), .int p2] M r := ct_of' hAd (by decide +kernel) (List.forall_mem_cons.mpr ⟨rfl, (List.forall_mem_cons.mpr ⟨rfl, (fun _ h => absurd h List.not_mem_nil)⟩)⟩) (Nat.le_of_ble_eq_true rfl) (L := [some (.ref (ad 0)), some (.int p2), none]) rfl (fun _ hX => w_L_types hX) h
set_option maxHeartbeats 4000000 in
set_option maxRecDepth 100000 in
theorem w_L_isPart_175 {l : Launch} {G : GL} {ad : Nat → Nat} {MM : Mem} {X : CT} (hX : Cx l { frames := 5, cells := 0, slots := 0, locals := 129 } cL_isPart RL 9 (some .boolean) G ad X) {k47 : Int32 → Int32 → Int32 → Int32 → Int32 → Int32 → Int32 → Mem → Option Rv} (hk47 : ∀ (x1 : Int32) (x2 : Int32) (x3 : Int32) (x4 : Int32) (x5 : Int32) (x6 : Int32) (x7 : Int32) (M : Mem) {L : List (Option Value)}, lsub [some (.ref (ad 0)), some (.int x1), some (.int x2), some (.int x3), some (.int x4), some (.int x5), some (.int x6), some (.int x7), none] L → KF l { frames := 5, cells := 0, slots := 0, locals := 129 } 9 G ad (EC G ad MM) (QP PostI G ad (EC G ad MM)) X (k47 x1 x2 x3 x4 x5 x6 x7 M) L 47 [] M) : ∀ (x1 : Int32) (x2 : Int32) (x3 : Int32) (x4 : Int32) (x5 : Int32) (x7 : Int32) (s0 : Int32) (M : Mem) {L : List (Option Value)}, lsub [some (.ref (ad 0)), some (.int x1), some (.int x2), some (.int x3), some (.int x4), some (.int x5), none, some (.int x7), none] L → KF l { frames := 5, cells := 0, slots := 0, locals := 129 } 9 G ad (EC G ad MM) (QP PostI G ad (EC G ad MM)) X (f_L_isPart_175 k47 x1 x2 x3 x4 x5 x7 s0 M) L 175 [.int s0] M := by
  intro x1 x2 x3 x4 x5 x7 s0 M L hL
  unfold f_L_isPart_175
  refine KF.locals (lsub_le hL) ?_
  refine k_istore (L' := [some (.ref (ad 0)), some (.int x1), some (.int x2), some (.int x3), some (.int x4), some (.int x5), some (.int s0), some (.int x7), none]) hX (by decide) rfl dL_isPart_175 ?_
  refine k_iinc (v := x7 + nI 1) (L' := [some (.ref (ad 0)), some (.int x1), some (.int x2), some (.int x3), some (.int x4), some (.int x5), some (.int s0), some (.int (x7 + nI 1)), none]) hX (i := 7) rfl rfl (by decide) rfl dL_isPart_177 ?_
  refine k_goto (tgt := 47) hX dL_isPart_180 (by decide) ?_
  exact hk47 x1 x2 x3 x4 x5 s0 (x7 + nI 1) M ⟨rfl, rfl, rfl, rfl, rfl, rfl, rfl, rfl, trivial⟩
set_option maxHeartbeats 4000000 in
set_option maxRecDepth 100000 in
theorem w_L_isPart_170 {l : Launch} {G : GL} {ad : Nat → Nat} {MM : Mem} {X : CT} (hX : Cx l { frames := 5, cells := 0, slots := 0, locals := 129 } cL_isPart RL 9 (some .boolean) G ad X) {k47 : Int32 → Int32 → Int32 → Int32 → Int32 → Int32 → Int32 → Mem → Option Rv} (hk47 : ∀ (x1 : Int32) (x2 : Int32) (x3 : Int32) (x4 : Int32) (x5 : Int32) (x6 : Int32) (x7 : Int32) (M : Mem) {L : List (Option Value)}, lsub [some (.ref (ad 0)), some (.int x1), some (.int x2), some (.int x3), some (.int x4), some (.int x5), some (.int x6), some (.int x7), none] L → KF l { frames := 5, cells := 0, slots := 0, locals := 129 } 9 G ad (EC G ad MM) (QP PostI G ad (EC G ad MM)) X (k47 x1 x2 x3 x4 x5 x6 x7 M) L 47 [] M) : ∀ (x1 : Int32) (x2 : Int32) (x3 : Int32) (x4 : Int32) (x5 : Int32) (x7 : Int32) (M : Mem) {L : List (Option Value)}, lsub [some (.ref (ad 0)), some (.int x1), some (.int x2), some (.int x3), some (.int x4), some (.int x5), none, some (.int x7), none] L → KF l { frames := 5, cells := 0, slots := 0, locals := 129 } 9 G ad (EC G ad MM) (QP PostI G ad (EC G ad MM)) X (f_L_isPart_170 k47 x1 x2 x3 x4 x5 x7 M) L 170 [] M := by
  intro x1 x2 x3 x4 x5 x7 M L hL
  unfold f_L_isPart_170
  refine KF.locals (lsub_le hL) ?_
  refine k_iconst (v := (nI 1)) hX rfl dL_isPart_170 ?_
  refine k_goto (tgt := 175) hX dL_isPart_171 (by decide) ?_
  exact w_L_isPart_175 hX hk47 x1 x2 x3 x4 x5 x7 (nI 1) M ⟨rfl, rfl, rfl, rfl, rfl, rfl, rfl, trivial⟩
set_option maxHeartbeats 4000000 in
set_option maxRecDepth 100000 in
theorem w_L_isPart_174 {l : Launch} {G : GL} {ad : Nat → Nat} {MM : Mem} {X : CT} (hX : Cx l { frames := 5, cells := 0, slots := 0, locals := 129 } cL_isPart RL 9 (some .boolean) G ad X) {k47 : Int32 → Int32 → Int32 → Int32 → Int32 → Int32 → Int32 → Mem → Option Rv} (hk47 : ∀ (x1 : Int32) (x2 : Int32) (x3 : Int32) (x4 : Int32) (x5 : Int32) (x6 : Int32) (x7 : Int32) (M : Mem) {L : List (Option Value)}, lsub [some (.ref (ad 0)), some (.int x1), some (.int x2), some (.int x3), some (.int x4), some (.int x5), some (.int x6), some (.int x7), none] L → KF l { frames := 5, cells := 0, slots := 0, locals := 129 } 9 G ad (EC G ad MM) (QP PostI G ad (EC G ad MM)) X (k47 x1 x2 x3 x4 x5 x6 x7 M) L 47 [] M) : ∀ (x1 : Int32) (x2 : Int32) (x3 : Int32) (x4 : Int32) (x5 : Int32) (x7 : Int32) (M : Mem) {L : List (Option Value)}, lsub [some (.ref (ad 0)), some (.int x1), some (.int x2), some (.int x3), some (.int x4), some (.int x5), none, some (.int x7), none] L → KF l { frames := 5, cells := 0, slots := 0, locals := 129 } 9 G ad (EC G ad MM) (QP PostI G ad (EC G ad MM)) X (f_L_isPart_174 k47 x1 x2 x3 x4 x5 x7 M) L 174 [] M := by
  intro x1 x2 x3 x4 x5 x7 M L hL
  unfold f_L_isPart_174
  refine KF.locals (lsub_le hL) ?_
  refine k_iconst (v := (nI 0)) hX rfl dL_isPart_174 ?_
  exact w_L_isPart_175 hX hk47 x1 x2 x3 x4 x5 x7 (nI 0) M ⟨rfl, rfl, rfl, rfl, rfl, rfl, rfl, trivial⟩
set_option maxHeartbeats 4000000 in
set_option maxRecDepth 100000 in
theorem w_L_isPart_123 {l : Launch} {G : GL} {ad : Nat → Nat} {MM : Mem} {X : CT} (hX : Cx l { frames := 5, cells := 0, slots := 0, locals := 129 } cL_isPart RL 9 (some .boolean) G ad X) {k47 : Int32 → Int32 → Int32 → Int32 → Int32 → Int32 → Int32 → Mem → Option Rv} (hk47 : ∀ (x1 : Int32) (x2 : Int32) (x3 : Int32) (x4 : Int32) (x5 : Int32) (x6 : Int32) (x7 : Int32) (M : Mem) {L : List (Option Value)}, lsub [some (.ref (ad 0)), some (.int x1), some (.int x2), some (.int x3), some (.int x4), some (.int x5), some (.int x6), some (.int x7), none] L → KF l { frames := 5, cells := 0, slots := 0, locals := 129 } 9 G ad (EC G ad MM) (QP PostI G ad (EC G ad MM)) X (k47 x1 x2 x3 x4 x5 x6 x7 M) L 47 [] M) : ∀ (x1 : Int32) (x2 : Int32) (x3 : Int32) (x4 : Int32) (x7 : Int32) (x8 : Int32) (s0 : Int32) (s1 : Int32) (M : Mem) {L : List (Option Value)}, lsub [some (.ref (ad 0)), some (.int x1), some (.int x2), some (.int x3), some (.int x4), none, none, some (.int x7), some (.int x8)] L → KF l { frames := 5, cells := 0, slots := 0, locals := 129 } 9 G ad (EC G ad MM) (QP PostI G ad (EC G ad MM)) X (f_L_isPart_123 k47 x1 x2 x3 x4 x7 x8 s0 s1 M) L 123 [.int s0, .int s1] M := by
  intro x1 x2 x3 x4 x7 x8 s0 s1 M L hL
  unfold f_L_isPart_123
  refine KF.locals (lsub_le hL) ?_
  refine k_ior hX dL_isPart_123 ?_
  refine k_istore (L' := [some (.ref (ad 0)), some (.int x1), some (.int x2), some (.int x3), some (.int x4), some (.int (s1 ||| s0)), none, some (.int x7), some (.int x8)]) hX (by decide) rfl dL_isPart_124 ?_
  refine k_iload hX rfl dL_isPart_126 ?_
  refine k_if_le (tgt := 174) hX dL_isPart_128 (by decide) (fun b1 => ?_) (fun b1 => ?_)
  · exact w_L_isPart_174 hX hk47 x1 x2 x3 x4 (s1 ||| s0) x7 M ⟨rfl, rfl, rfl, rfl, rfl, rfl, rfl, trivial⟩
  refine k_iload hX rfl dL_isPart_131 ?_
  refine k_if_lt (tgt := 174) hX dL_isPart_133 (by decide) (fun b2 => ?_) (fun b2 => ?_)
  · exact w_L_isPart_174 hX hk47 x1 x2 x3 x4 (s1 ||| s0) x7 M ⟨rfl, rfl, rfl, rfl, rfl, rfl, rfl, trivial⟩
  refine k_iload hX rfl dL_isPart_136 ?_
  refine k_if_gt (tgt := 170) hX dL_isPart_138 (by decide) (fun b3 => ?_) (fun b3 => ?_)
  · exact w_L_isPart_170 hX hk47 x1 x2 x3 x4 (s1 ||| s0) x7 M ⟨rfl, rfl, rfl, rfl, rfl, rfl, rfl, trivial⟩
  refine k_iload hX rfl dL_isPart_141 ?_
  refine k_iload_n hX (i := 3) rfl rfl dL_isPart_143 ?_
  refine k_iconst (v := (nI 1)) hX rfl dL_isPart_144 ?_
  refine k_isub hX dL_isPart_145 ?_
  refine k_icmp_eq (tgt := 170) hX dL_isPart_146 (by decide) (fun b4 => ?_) (fun b4 => ?_)
  · exact w_L_isPart_170 hX hk47 x1 x2 x3 x4 (s1 ||| s0) x7 M ⟨rfl, rfl, rfl, rfl, rfl, rfl, rfl, trivial⟩
  refine k_iload hX rfl dL_isPart_149 ?_
  refine k_bipush (v := (nI 88)) hX rfl dL_isPart_151 ?_
  refine k_icmp_eq (tgt := 170) hX dL_isPart_153 (by decide) (fun b5 => ?_) (fun b5 => ?_)
  · exact w_L_isPart_170 hX hk47 x1 x2 x3 x4 (s1 ||| s0) x7 M ⟨rfl, rfl, rfl, rfl, rfl, rfl, rfl, trivial⟩
  refine k_iload hX rfl dL_isPart_156 ?_
  refine k_bipush (v := (nI 78)) hX rfl dL_isPart_158 ?_
  refine k_icmp_eq (tgt := 170) hX dL_isPart_160 (by decide) (fun b6 => ?_) (fun b6 => ?_)
  · exact w_L_isPart_170 hX hk47 x1 x2 x3 x4 (s1 ||| s0) x7 M ⟨rfl, rfl, rfl, rfl, rfl, rfl, rfl, trivial⟩
  refine k_iload hX rfl dL_isPart_163 ?_
  refine k_bipush (v := (nI 45)) hX rfl dL_isPart_165 ?_
  refine k_icmp_ne (tgt := 174) hX dL_isPart_167 (by decide) (fun b7 => ?_) (fun b7 => ?_)
  · exact w_L_isPart_174 hX hk47 x1 x2 x3 x4 (s1 ||| s0) x7 M ⟨rfl, rfl, rfl, rfl, rfl, rfl, rfl, trivial⟩
  exact w_L_isPart_170 hX hk47 x1 x2 x3 x4 (s1 ||| s0) x7 M ⟨rfl, rfl, rfl, rfl, rfl, rfl, rfl, trivial⟩
set_option maxHeartbeats 4000000 in
set_option maxRecDepth 100000 in
theorem w_L_isPart_122 {l : Launch} {G : GL} {ad : Nat → Nat} {MM : Mem} {X : CT} (hX : Cx l { frames := 5, cells := 0, slots := 0, locals := 129 } cL_isPart RL 9 (some .boolean) G ad X) {k47 : Int32 → Int32 → Int32 → Int32 → Int32 → Int32 → Int32 → Mem → Option Rv} (hk47 : ∀ (x1 : Int32) (x2 : Int32) (x3 : Int32) (x4 : Int32) (x5 : Int32) (x6 : Int32) (x7 : Int32) (M : Mem) {L : List (Option Value)}, lsub [some (.ref (ad 0)), some (.int x1), some (.int x2), some (.int x3), some (.int x4), some (.int x5), some (.int x6), some (.int x7), none] L → KF l { frames := 5, cells := 0, slots := 0, locals := 129 } 9 G ad (EC G ad MM) (QP PostI G ad (EC G ad MM)) X (k47 x1 x2 x3 x4 x5 x6 x7 M) L 47 [] M) : ∀ (x1 : Int32) (x2 : Int32) (x3 : Int32) (x4 : Int32) (x7 : Int32) (x8 : Int32) (s0 : Int32) (M : Mem) {L : List (Option Value)}, lsub [some (.ref (ad 0)), some (.int x1), some (.int x2), some (.int x3), some (.int x4), none, none, some (.int x7), some (.int x8)] L → KF l { frames := 5, cells := 0, slots := 0, locals := 129 } 9 G ad (EC G ad MM) (QP PostI G ad (EC G ad MM)) X (f_L_isPart_122 k47 x1 x2 x3 x4 x7 x8 s0 M) L 122 [.int s0] M := by
  intro x1 x2 x3 x4 x7 x8 s0 M L hL
  unfold f_L_isPart_122
  refine KF.locals (lsub_le hL) ?_
  refine k_iconst (v := (nI 0)) hX rfl dL_isPart_122 ?_
  exact w_L_isPart_123 hX hk47 x1 x2 x3 x4 x7 x8 (nI 0) s0 M ⟨rfl, rfl, rfl, rfl, rfl, rfl, rfl, trivial⟩
set_option maxHeartbeats 4000000 in
set_option maxRecDepth 100000 in
theorem w_L_isPart_93 {l : Launch} {G : GL} {ad : Nat → Nat} {MM : Mem} {X : CT} (hX : Cx l { frames := 5, cells := 0, slots := 0, locals := 129 } cL_isPart RL 9 (some .boolean) G ad X) {k47 : Int32 → Int32 → Int32 → Int32 → Int32 → Int32 → Int32 → Mem → Option Rv} (hk47 : ∀ (x1 : Int32) (x2 : Int32) (x3 : Int32) (x4 : Int32) (x5 : Int32) (x6 : Int32) (x7 : Int32) (M : Mem) {L : List (Option Value)}, lsub [some (.ref (ad 0)), some (.int x1), some (.int x2), some (.int x3), some (.int x4), some (.int x5), some (.int x6), some (.int x7), none] L → KF l { frames := 5, cells := 0, slots := 0, locals := 129 } 9 G ad (EC G ad MM) (QP PostI G ad (EC G ad MM)) X (k47 x1 x2 x3 x4 x5 x6 x7 M) L 47 [] M) : ∀ (x1 : Int32) (x2 : Int32) (x3 : Int32) (x5 : Int32) (x7 : Int32) (x8 : Int32) (s0 : Int32) (s1 : Int32) (M : Mem) {L : List (Option Value)}, lsub [some (.ref (ad 0)), some (.int x1), some (.int x2), some (.int x3), none, some (.int x5), none, some (.int x7), some (.int x8)] L → KF l { frames := 5, cells := 0, slots := 0, locals := 129 } 9 G ad (EC G ad MM) (QP PostI G ad (EC G ad MM)) X (f_L_isPart_93 k47 x1 x2 x3 x5 x7 x8 s0 s1 M) L 93 [.int s0, .int s1] M := by
  intro x1 x2 x3 x5 x7 x8 s0 s1 M L hL
  unfold f_L_isPart_93
  refine KF.locals (lsub_le hL) ?_
  refine k_iadd hX dL_isPart_93 ?_
  refine k_istore (L' := [some (.ref (ad 0)), some (.int x1), some (.int x2), some (.int x3), some (.int (s1 + s0)), some (.int x5), none, some (.int x7), some (.int x8)]) hX (by decide) rfl dL_isPart_94 ?_
  refine k_iload hX rfl dL_isPart_96 ?_
  refine k_iload hX rfl dL_isPart_98 ?_
  refine k_bipush (v := (nI 97)) hX rfl dL_isPart_100 ?_
  refine k_icmp_lt (tgt := 122) hX dL_isPart_102 (by decide) (fun b1 => ?_) (fun b1 => ?_)
  · exact w_L_isPart_122 hX hk47 x1 x2 x3 (s1 + s0) x7 x8 x5 M ⟨rfl, rfl, rfl, rfl, rfl, rfl, rfl, trivial⟩
  refine k_iload hX rfl dL_isPart_105 ?_
  refine k_bipush (v := (nI 102)) hX rfl dL_isPart_107 ?_
  refine k_icmp_gt (tgt := 122) hX dL_isPart_109 (by decide) (fun b2 => ?_) (fun b2 => ?_)
  · exact w_L_isPart_122 hX hk47 x1 x2 x3 (s1 + s0) x7 x8 x5 M ⟨rfl, rfl, rfl, rfl, rfl, rfl, rfl, trivial⟩
  refine k_iconst (v := (nI 1)) hX rfl dL_isPart_112 ?_
  refine k_iload hX rfl dL_isPart_113 ?_
  refine k_bipush (v := (nI 97)) hX rfl dL_isPart_115 ?_
  refine k_isub hX dL_isPart_117 ?_
  refine k_ishl hX dL_isPart_118 ?_
  refine k_goto (tgt := 123) hX dL_isPart_119 (by decide) ?_
  exact w_L_isPart_123 hX hk47 x1 x2 x3 (s1 + s0) x7 x8 ((nI 1) <<< ((x8 - (nI 97)) &&& nI 31)) x5 M ⟨rfl, rfl, rfl, rfl, rfl, rfl, rfl, trivial⟩
set_option maxHeartbeats 4000000 in
set_option maxRecDepth 100000 in
theorem w_L_isPart_340 {l : Launch} {G : GL} {ad : Nat → Nat} {MM : Mem} {X : CT} (hX : Cx l { frames := 5, cells := 0, slots := 0, locals := 129 } cL_isPart RL 9 (some .boolean) G ad X) : ∀ (s0 : Int32) (M : Mem) {L : List (Option Value)}, lsub [none, none, none, none, none, none, none, none, none] L → KF l { frames := 5, cells := 0, slots := 0, locals := 129 } 9 G ad (EC G ad MM) (QP PostI G ad (EC G ad MM)) X (f_L_isPart_340 s0 M) L 340 [.int s0] M := by
  intro s0 M L hL
  unfold f_L_isPart_340
  refine KF.locals (lsub_le hL) ?_
  exact k_zret hX dL_isPart_340
set_option maxHeartbeats 4000000 in
set_option maxRecDepth 100000 in
theorem w_L_isPart_335 {l : Launch} {G : GL} {ad : Nat → Nat} {MM : Mem} {X : CT} (hX : Cx l { frames := 5, cells := 0, slots := 0, locals := 129 } cL_isPart RL 9 (some .boolean) G ad X) : ∀ (M : Mem) {L : List (Option Value)}, lsub [none, none, none, none, none, none, none, none, none] L → KF l { frames := 5, cells := 0, slots := 0, locals := 129 } 9 G ad (EC G ad MM) (QP PostI G ad (EC G ad MM)) X (f_L_isPart_335 M) L 335 [] M := by
  intro M L hL
  unfold f_L_isPart_335
  refine KF.locals (lsub_le hL) ?_
  refine k_iconst (v := (nI 1)) hX rfl dL_isPart_335 ?_
  refine k_goto (tgt := 340) hX dL_isPart_336 (by decide) ?_
  exact w_L_isPart_340 hX (nI 1) M trivial
set_option maxHeartbeats 4000000 in
set_option maxRecDepth 100000 in
theorem w_L_isPart_339 {l : Launch} {G : GL} {ad : Nat → Nat} {MM : Mem} {X : CT} (hX : Cx l { frames := 5, cells := 0, slots := 0, locals := 129 } cL_isPart RL 9 (some .boolean) G ad X) : ∀ (M : Mem) {L : List (Option Value)}, lsub [none, none, none, none, none, none, none, none, none] L → KF l { frames := 5, cells := 0, slots := 0, locals := 129 } 9 G ad (EC G ad MM) (QP PostI G ad (EC G ad MM)) X (f_L_isPart_339 M) L 339 [] M := by
  intro M L hL
  unfold f_L_isPart_339
  refine KF.locals (lsub_le hL) ?_
  refine k_iconst (v := (nI 0)) hX rfl dL_isPart_339 ?_
  exact w_L_isPart_340 hX (nI 0) M trivial
set_option maxHeartbeats 4000000 in
set_option maxRecDepth 100000 in
theorem w_L_isPart_283 {l : Launch} {G : GL} {ad : Nat → Nat} {MM : Mem} {X : CT} (hX : Cx l { frames := 5, cells := 0, slots := 0, locals := 129 } cL_isPart RL 9 (some .boolean) G ad X) : ∀ (x1 : Int32) (x2 : Int32) (M : Mem) {L : List (Option Value)}, lsub [some (.ref (ad 0)), some (.int x1), some (.int x2), none, none, none, none, none, none] L → KF l { frames := 5, cells := 0, slots := 0, locals := 129 } 9 G ad (EC G ad MM) (QP PostI G ad (EC G ad MM)) X (f_L_isPart_283 x1 x2 M) L 283 [] M := by
  intro x1 x2 M L hL
  unfold f_L_isPart_283
  refine KF.locals (lsub_le hL) ?_
  refine k_aload_n hX (i := 0) rfl rfl dL_isPart_283 ?_
  refine k_iload_n hX (i := 1) rfl rfl dL_isPart_284 ?_
  refine k_iload_n hX (i := 2) rfl rfl dL_isPart_285 ?_
  refine k_iconst (v := (nI 3)) hX rfl dL_isPart_286 ?_
  refine k_callVI (vs := [.int x1, .int x2, .int (nI 3)]) hX (fun _ h9 => m_X6_part hX.2.2.2.2.2.2.1  h9) io_0 rfl ml_L_29 ⟨Nat.le_of_ble_eq_true rfl, Nat.le_of_ble_eq_true rfl⟩ rfl rfl (Nat.le_of_ble_eq_true rfl) dL_isPart_287 (fun q1 => ?_)
  refine k_if_ne (tgt := 339) hX dL_isPart_290 (by decide) (fun b2 => ?_) (fun b2 => ?_)
  · exact w_L_isPart_339 hX q1.2 trivial
  refine k_goto (tgt := 335) hX dL_isPart_293 (by decide) ?_
  exact w_L_isPart_335 hX q1.2 trivial
set_option maxHeartbeats 4000000 in
set_option maxRecDepth 100000 in
theorem w_L_isPart_324 {l : Launch} {G : GL} {ad : Nat → Nat} {MM : Mem} {X : CT} (hX : Cx l { frames := 5, cells := 0, slots := 0, locals := 129 } cL_isPart RL 9 (some .boolean) G ad X) : ∀ (x1 : Int32) (x2 : Int32) (M : Mem) {L : List (Option Value)}, lsub [some (.ref (ad 0)), some (.int x1), some (.int x2), none, none, none, none, none, none] L → KF l { frames := 5, cells := 0, slots := 0, locals := 129 } 9 G ad (EC G ad MM) (QP PostI G ad (EC G ad MM)) X (f_L_isPart_324 x1 x2 M) L 324 [] M := by
  intro x1 x2 M L hL
  unfold f_L_isPart_324
  refine KF.locals (lsub_le hL) ?_
  refine k_aload_n hX (i := 0) rfl rfl dL_isPart_324 ?_
  refine k_iload_n hX (i := 1) rfl rfl dL_isPart_325 ?_
  refine k_iload_n hX (i := 2) rfl rfl dL_isPart_326 ?_
  refine k_iconst (v := (nI 3)) hX rfl dL_isPart_327 ?_
  refine k_callVI (vs := [.int x1, .int x2, .int (nI 3)]) hX (fun _ h9 => m_X6_part hX.2.2.2.2.2.2.1  h9) io_0 rfl ml_L_29 ⟨Nat.le_of_ble_eq_true rfl, Nat.le_of_ble_eq_true rfl⟩ rfl rfl (Nat.le_of_ble_eq_true rfl) dL_isPart_328 (fun q1 => ?_)
  refine k_iconst (v := (nI 1)) hX rfl dL_isPart_331 ?_
  refine k_icmp_ne (tgt := 339) hX dL_isPart_332 (by decide) (fun b2 => ?_) (fun b2 => ?_)
  · exact w_L_isPart_339 hX q1.2 trivial
  exact w_L_isPart_335 hX q1.2 trivial
set_option maxHeartbeats 4000000 in
set_option maxRecDepth 100000 in
theorem w_L_isPart_255 {l : Launch} {G : GL} {ad : Nat → Nat} {MM : Mem} {X : CT} (hX : Cx l { frames := 5, cells := 0, slots := 0, locals := 129 } cL_isPart RL 9 (some .boolean) G ad X) : ∀ (x1 : Int32) (x2 : Int32) (x7 : Int32) (s0 : Int32) (M : Mem) {L : List (Option Value)}, lsub [some (.ref (ad 0)), some (.int x1), some (.int x2), none, none, none, none, some (.int x7), none] L → KF l { frames := 5, cells := 0, slots := 0, locals := 129 } 9 G ad (EC G ad MM) (QP PostI G ad (EC G ad MM)) X (f_L_isPart_255 x1 x2 x7 s0 M) L 255 [.int s0] M := by
  intro x1 x2 x7 s0 M L hL
  unfold f_L_isPart_255
  refine KF.locals (lsub_le hL) ?_
  refine k_istore (L' := [some (.ref (ad 0)), some (.int x1), some (.int x2), none, none, none, some (.int s0), some (.int x7), none]) hX (by decide) rfl dL_isPart_255 ?_
  refine k_iload hX rfl dL_isPart_257 ?_
  refine k_if_eq (tgt := 339) hX dL_isPart_259 (by decide) (fun b1 => ?_) (fun b1 => ?_)
  · exact w_L_isPart_339 hX M trivial
  refine k_iload hX rfl dL_isPart_262 ?_
  refine k_bipush (v := (nI 88)) hX rfl dL_isPart_264 ?_
  refine k_icmp_eq (tgt := 283) hX dL_isPart_266 (by decide) (fun b2 => ?_) (fun b2 => ?_)
  · exact w_L_isPart_283 hX x1 x2 M ⟨rfl, rfl, rfl, trivial⟩
  refine k_iload hX rfl dL_isPart_269 ?_
  refine k_bipush (v := (nI 48)) hX rfl dL_isPart_271 ?_
  refine k_icmp_eq (tgt := 283) hX dL_isPart_273 (by decide) (fun b3 => ?_) (fun b3 => ?_)
  · exact w_L_isPart_283 hX x1 x2 M ⟨rfl, rfl, rfl, trivial⟩
  refine k_iload hX rfl dL_isPart_276 ?_
  refine k_bipush (v := (nI 62)) hX rfl dL_isPart_278 ?_
  refine k_icmp_ne (tgt := 296) hX dL_isPart_280 (by decide) (fun b4 => ?_) (fun b4 => ?_)
  · refine k_iload hX rfl dL_isPart_296 ?_
    refine k_bipush (v := (nI 78)) hX rfl dL_isPart_298 ?_
    refine k_icmp_eq (tgt := 324) hX dL_isPart_300 (by decide) (fun b5 => ?_) (fun b5 => ?_)
    · exact w_L_isPart_324 hX x1 x2 M ⟨rfl, rfl, rfl, trivial⟩
    refine k_iload hX rfl dL_isPart_303 ?_
    refine k_bipush (v := (nI 49)) hX rfl dL_isPart_305 ?_
    refine k_icmp_eq (tgt := 324) hX dL_isPart_307 (by decide) (fun b6 => ?_) (fun b6 => ?_)
    · exact w_L_isPart_324 hX x1 x2 M ⟨rfl, rfl, rfl, trivial⟩
    refine k_iload hX rfl dL_isPart_310 ?_
    refine k_bipush (v := (nI 45)) hX rfl dL_isPart_312 ?_
    refine k_icmp_eq (tgt := 324) hX dL_isPart_314 (by decide) (fun b7 => ?_) (fun b7 => ?_)
    · exact w_L_isPart_324 hX x1 x2 M ⟨rfl, rfl, rfl, trivial⟩
    refine k_iload hX rfl dL_isPart_317 ?_
    refine k_bipush (v := (nI 46)) hX rfl dL_isPart_319 ?_
    refine k_icmp_ne (tgt := 335) hX dL_isPart_321 (by decide) (fun b8 => ?_) (fun b8 => ?_)
    · exact w_L_isPart_335 hX M trivial
    exact w_L_isPart_324 hX x1 x2 M ⟨rfl, rfl, rfl, trivial⟩
  exact w_L_isPart_283 hX x1 x2 M ⟨rfl, rfl, rfl, trivial⟩
set_option maxHeartbeats 4000000 in
set_option maxRecDepth 100000 in
theorem w_L_isPart_254 {l : Launch} {G : GL} {ad : Nat → Nat} {MM : Mem} {X : CT} (hX : Cx l { frames := 5, cells := 0, slots := 0, locals := 129 } cL_isPart RL 9 (some .boolean) G ad X) : ∀ (x1 : Int32) (x2 : Int32) (x7 : Int32) (M : Mem) {L : List (Option Value)}, lsub [some (.ref (ad 0)), some (.int x1), some (.int x2), none, none, none, none, some (.int x7), none] L → KF l { frames := 5, cells := 0, slots := 0, locals := 129 } 9 G ad (EC G ad MM) (QP PostI G ad (EC G ad MM)) X (f_L_isPart_254 x1 x2 x7 M) L 254 [] M := by
  intro x1 x2 x7 M L hL
  unfold f_L_isPart_254
  refine KF.locals (lsub_le hL) ?_
  refine k_iconst (v := (nI 0)) hX rfl dL_isPart_254 ?_
  exact w_L_isPart_255 hX x1 x2 x7 (nI 0) M ⟨rfl, rfl, rfl, rfl, trivial⟩
set_option maxHeartbeats 4000000 in
set_option maxRecDepth 100000 in
theorem w_L_isPart_247 {l : Launch} {G : GL} {ad : Nat → Nat} {MM : Mem} {X : CT} (hX : Cx l { frames := 5, cells := 0, slots := 0, locals := 129 } cL_isPart RL 9 (some .boolean) G ad X) : ∀ (x1 : Int32) (x2 : Int32) (x7 : Int32) (s0 : Int32) (s1 : Int32) (M : Mem) {L : List (Option Value)}, lsub [some (.ref (ad 0)), some (.int x1), some (.int x2), none, none, none, none, some (.int x7), none] L → KF l { frames := 5, cells := 0, slots := 0, locals := 129 } 9 G ad (EC G ad MM) (QP PostI G ad (EC G ad MM)) X (f_L_isPart_247 x1 x2 x7 s0 s1 M) L 247 [.int s0, .int s1] M := by
  intro x1 x2 x7 s0 s1 M L hL
  unfold f_L_isPart_247
  refine KF.locals (lsub_le hL) ?_
  refine k_icmp_ne (tgt := 254) hX dL_isPart_247 (by decide) (fun b1 => ?_) (fun b1 => ?_)
  · exact w_L_isPart_254 hX x1 x2 x7 M ⟨rfl, rfl, rfl, rfl, trivial⟩
  refine k_iconst (v := (nI 1)) hX rfl dL_isPart_250 ?_
  refine k_goto (tgt := 255) hX dL_isPart_251 (by decide) ?_
  exact w_L_isPart_255 hX x1 x2 x7 (nI 1) M ⟨rfl, rfl, rfl, rfl, trivial⟩
set_option maxHeartbeats 4000000 in
set_option maxRecDepth 100000 in
theorem w_L_isPart_242 {l : Launch} {G : GL} {ad : Nat → Nat} {MM : Mem} {X : CT} (hX : Cx l { frames := 5, cells := 0, slots := 0, locals := 129 } cL_isPart RL 9 (some .boolean) G ad X) : ∀ (x1 : Int32) (x2 : Int32) (x7 : Int32) (s0 : Int32) (M : Mem) {L : List (Option Value)}, lsub [some (.ref (ad 0)), some (.int x1), some (.int x2), none, none, none, none, some (.int x7), none] L → KF l { frames := 5, cells := 0, slots := 0, locals := 129 } 9 G ad (EC G ad MM) (QP PostI G ad (EC G ad MM)) X (f_L_isPart_242 x1 x2 x7 s0 M) L 242 [.int s0] M := by
  intro x1 x2 x7 s0 M L hL
  unfold f_L_isPart_242
  refine KF.locals (lsub_le hL) ?_
  refine k_iconst (v := (nI 1)) hX rfl dL_isPart_242 ?_
  refine k_goto (tgt := 247) hX dL_isPart_243 (by decide) ?_
  exact w_L_isPart_247 hX x1 x2 x7 (nI 1) s0 M ⟨rfl, rfl, rfl, rfl, trivial⟩
set_option maxHeartbeats 4000000 in
set_option maxRecDepth 100000 in
theorem w_L_isPart_230 {l : Launch} {G : GL} {ad : Nat → Nat} {MM : Mem} {X : CT} (hX : Cx l { frames := 5, cells := 0, slots := 0, locals := 129 } cL_isPart RL 9 (some .boolean) G ad X) : ∀ (x1 : Int32) (x2 : Int32) (x3 : Int32) (x7 : Int32) (s0 : Int32) (M : Mem) {L : List (Option Value)}, lsub [some (.ref (ad 0)), some (.int x1), some (.int x2), some (.int x3), none, none, none, some (.int x7), none] L → KF l { frames := 5, cells := 0, slots := 0, locals := 129 } 9 G ad (EC G ad MM) (QP PostI G ad (EC G ad MM)) X (f_L_isPart_230 x1 x2 x3 x7 s0 M) L 230 [.int s0] M := by
  intro x1 x2 x3 x7 s0 M L hL
  unfold f_L_isPart_230
  refine KF.locals (lsub_le hL) ?_
  refine k_iload_n hX (i := 3) rfl rfl dL_isPart_230 ?_
  refine k_iconst (v := (nI 1)) hX rfl dL_isPart_231 ?_
  refine k_icmp_eq (tgt := 242) hX dL_isPart_232 (by decide) (fun b1 => ?_) (fun b1 => ?_)
  · exact w_L_isPart_242 hX x1 x2 x7 s0 M ⟨rfl, rfl, rfl, rfl, trivial⟩
  refine k_iload hX rfl dL_isPart_235 ?_
  refine k_bipush (v := (nI 45)) hX rfl dL_isPart_237 ?_
  refine k_icmp_ne (tgt := 246) hX dL_isPart_239 (by decide) (fun b2 => ?_) (fun b2 => ?_)
  · refine k_iconst (v := (nI 0)) hX rfl dL_isPart_246 ?_
    exact w_L_isPart_247 hX x1 x2 x7 (nI 0) s0 M ⟨rfl, rfl, rfl, rfl, trivial⟩
  exact w_L_isPart_242 hX x1 x2 x7 s0 M ⟨rfl, rfl, rfl, rfl, trivial⟩
set_option maxHeartbeats 4000000 in
set_option maxRecDepth 100000 in
theorem w_L_isPart_183 {l : Launch} {G : GL} {ad : Nat → Nat} {MM : Mem} {X : CT} (hX : Cx l { frames := 5, cells := 0, slots := 0, locals := 129 } cL_isPart RL 9 (some .boolean) G ad X) : ∀ (x1 : Int32) (x2 : Int32) (x3 : Int32) (x4 : Int32) (x5 : Int32) (x6 : Int32) (M : Mem) {L : List (Option Value)}, lsub [some (.ref (ad 0)), some (.int x1), some (.int x2), some (.int x3), some (.int x4), some (.int x5), some (.int x6), none, none] L → KF l { frames := 5, cells := 0, slots := 0, locals := 129 } 9 G ad (EC G ad MM) (QP PostI G ad (EC G ad MM)) X (f_L_isPart_183 x1 x2 x3 x4 x5 x6 M) L 183 [] M := by
  intro x1 x2 x3 x4 x5 x6 M L hL
  unfold f_L_isPart_183
  refine KF.locals (lsub_le hL) ?_
  refine k_aload_n hX (i := 0) rfl rfl dL_isPart_183 ?_
  refine k_iload_n hX (i := 1) rfl rfl dL_isPart_184 ?_
  refine k_iload_n hX (i := 2) rfl rfl dL_isPart_185 ?_
  refine k_iconst (v := (nI 0)) hX rfl dL_isPart_186 ?_
  refine k_callVI (vs := [.int x1, .int x2, .int (nI 0)]) hX (fun _ h9 => m_X6_letter hX.2.2.2.2.2.2.1  h9) io_0 rfl ml_L_33 ⟨Nat.le_of_ble_eq_true rfl, Nat.le_of_ble_eq_true rfl⟩ rfl rfl (Nat.le_of_ble_eq_true rfl) dL_isPart_187 (fun q1 => ?_)
  refine k_istore (L' := [some (.ref (ad 0)), some (.int x1), some (.int x2), some (.int x3), some (.int x4), some (.int x5), some (.int x6), some (.int q1.1), none]) hX (by decide) rfl dL_isPart_190 ?_
  refine k_iload hX rfl dL_isPart_192 ?_
  refine k_if_eq (tgt := 254) hX dL_isPart_194 (by decide) (fun b2 => ?_) (fun b2 => ?_)
  · exact w_L_isPart_254 hX x1 x2 q1.1 q1.2 ⟨rfl, rfl, rfl, rfl, trivial⟩
  refine k_iload hX rfl dL_isPart_197 ?_
  refine k_if_ne (tgt := 254) hX dL_isPart_199 (by decide) (fun b3 => ?_) (fun b3 => ?_)
  · exact w_L_isPart_254 hX x1 x2 q1.1 q1.2 ⟨rfl, rfl, rfl, rfl, trivial⟩
  refine k_iload hX rfl dL_isPart_202 ?_
  refine k_aload_n hX (i := 0) rfl rfl dL_isPart_204 ?_
  refine k_iload_n hX (i := 1) rfl rfl dL_isPart_205 ?_
  refine k_iload_n hX (i := 2) rfl rfl dL_isPart_206 ?_
  refine k_iconst (v := (nI 2)) hX rfl dL_isPart_207 ?_
  refine k_callVI (vs := [.int x1, .int x2, .int (nI 2)]) hX (fun _ h9 => m_X6_part hX.2.2.2.2.2.2.1  h9) io_0 rfl ml_L_29 ⟨Nat.le_of_ble_eq_true rfl, Nat.le_of_ble_eq_true rfl⟩ rfl rfl (Nat.le_of_ble_eq_true rfl) dL_isPart_208 (fun q4 => ?_)
  refine k_icmp_ne (tgt := 254) hX dL_isPart_211 (by decide) (fun b5 => ?_) (fun b5 => ?_)
  · exact w_L_isPart_254 hX x1 x2 q1.1 q4.2 ⟨rfl, rfl, rfl, rfl, trivial⟩
  refine k_aload_n hX (i := 0) rfl rfl dL_isPart_214 ?_
  refine k_iload_n hX (i := 1) rfl rfl dL_isPart_215 ?_
  refine k_iload_n hX (i := 2) rfl rfl dL_isPart_216 ?_
  refine k_iconst (v := (nI 0)) hX rfl dL_isPart_217 ?_
  refine k_callVI (vs := [.int x1, .int x2, .int (nI 0)]) hX (fun _ h9 => m_X6_part hX.2.2.2.2.2.2.1  h9) io_0 rfl ml_L_29 ⟨Nat.le_of_ble_eq_true rfl, Nat.le_of_ble_eq_true rfl⟩ rfl rfl (Nat.le_of_ble_eq_true rfl) dL_isPart_218 (fun q6 => ?_)
  refine k_iconst (v := (nI 1)) hX rfl dL_isPart_221 ?_
  refine k_icmp_ne (tgt := 229) hX dL_isPart_222 (by decide) (fun b7 => ?_) (fun b7 => ?_)
  · refine k_iconst (v := (nI 0)) hX rfl dL_isPart_229 ?_
    exact w_L_isPart_230 hX x1 x2 x3 q1.1 (nI 0) q6.2 ⟨rfl, rfl, rfl, rfl, rfl, trivial⟩
  refine k_iconst (v := (nI 1)) hX rfl dL_isPart_225 ?_
  refine k_goto (tgt := 230) hX dL_isPart_226 (by decide) ?_
  exact w_L_isPart_230 hX x1 x2 x3 q1.1 (nI 1) q6.2 ⟨rfl, rfl, rfl, rfl, rfl, trivial⟩
set_option maxHeartbeats 4000000 in
set_option maxRecDepth 100000 in
theorem w_L_isPart_47 {l : Launch} {G : GL} {ad : Nat → Nat} {MM : Mem} {X : CT} (hX : Cx l { frames := 5, cells := 0, slots := 0, locals := 129 } cL_isPart RL 9 (some .boolean) G ad X) : ∀ (n : Nat), ∀ (x1 : Int32) (x2 : Int32) (x3 : Int32) (x4 : Int32) (x5 : Int32) (x6 : Int32) (x7 : Int32) (M : Mem) {L : List (Option Value)}, lsub [some (.ref (ad 0)), some (.int x1), some (.int x2), some (.int x3), some (.int x4), some (.int x5), some (.int x6), some (.int x7), none] L → KF l { frames := 5, cells := 0, slots := 0, locals := 129 } 9 G ad (EC G ad MM) (QP PostI G ad (EC G ad MM)) X (f_L_isPart_47 n x1 x2 x3 x4 x5 x6 x7 M) L 47 [] M := by
  intro n
  induction n with
  | zero =>
    intro x1 x2 x3 x4 x5 x6 x7 M L hL
    exact KF.none'
  | succ n ih =>
    intro x1 x2 x3 x4 x5 x6 x7 M L hL
    rw [f_L_isPart_47]
    refine KF.locals (lsub_le hL) ?_
    refine k_iload hX rfl dL_isPart_47 ?_
    refine k_iload_n hX (i := 3) rfl rfl dL_isPart_49 ?_
    refine k_icmp_ge (tgt := 183) hX dL_isPart_50 (by decide) (fun b1 => ?_) (fun b1 => ?_)
    · exact w_L_isPart_183 hX x1 x2 x3 x4 x5 x6 M ⟨rfl, rfl, rfl, rfl, rfl, rfl, rfl, trivial⟩
    refine k_iload hX rfl dL_isPart_53 ?_
    refine k_if_eq (tgt := 183) hX dL_isPart_55 (by decide) (fun b2 => ?_) (fun b2 => ?_)
    · exact w_L_isPart_183 hX x1 x2 x3 x4 x5 x6 M ⟨rfl, rfl, rfl, rfl, rfl, rfl, rfl, trivial⟩
    refine k_aload_n hX (i := 0) rfl rfl dL_isPart_58 ?_
    refine k_iload_n hX (i := 1) rfl rfl dL_isPart_59 ?_
    refine k_iload_n hX (i := 2) rfl rfl dL_isPart_60 ?_
    refine k_iload hX rfl dL_isPart_61 ?_
    refine k_callVI (vs := [.int x1, .int x2, .int x7]) hX (fun _ h9 => m_X6_letter hX.2.2.2.2.2.2.1  h9) io_0 rfl ml_L_33 ⟨Nat.le_of_ble_eq_true rfl, Nat.le_of_ble_eq_true rfl⟩ rfl rfl (Nat.le_of_ble_eq_true rfl) dL_isPart_63 (fun q3 => ?_)
    refine k_istore (L' := [some (.ref (ad 0)), some (.int x1), some (.int x2), some (.int x3), some (.int x4), some (.int x5), some (.int x6), some (.int x7), some (.int q3.1)]) hX (by decide) rfl dL_isPart_66 ?_
    refine k_iload hX rfl dL_isPart_68 ?_
    refine k_iload hX rfl dL_isPart_70 ?_
    refine k_bipush (v := (nI 40)) hX rfl dL_isPart_72 ?_
    refine k_icmp_ne (tgt := 81) hX dL_isPart_74 (by decide) (fun b4 => ?_) (fun b4 => ?_)
    · refine k_iload hX rfl dL_isPart_81 ?_
      refine k_bipush (v := (nI 41)) hX rfl dL_isPart_83 ?_
      refine k_icmp_ne (tgt := 92) hX dL_isPart_85 (by decide) (fun b5 => ?_) (fun b5 => ?_)
      · refine k_iconst (v := (nI 0)) hX rfl dL_isPart_92 ?_
        exact w_L_isPart_93 hX ih x1 x2 x3 x5 x7 q3.1 (nI 0) x4 q3.2 ⟨rfl, rfl, rfl, rfl, rfl, rfl, rfl, trivial⟩
      refine k_iconst (v := (-1)) hX rfl dL_isPart_88 ?_
      refine k_goto (tgt := 93) hX dL_isPart_89 (by decide) ?_
      exact w_L_isPart_93 hX ih x1 x2 x3 x5 x7 q3.1 (-1) x4 q3.2 ⟨rfl, rfl, rfl, rfl, rfl, rfl, rfl, trivial⟩
    refine k_iconst (v := (nI 1)) hX rfl dL_isPart_77 ?_
    refine k_goto (tgt := 93) hX dL_isPart_78 (by decide) ?_
    exact w_L_isPart_93 hX ih x1 x2 x3 x5 x7 q3.1 (nI 1) x4 q3.2 ⟨rfl, rfl, rfl, rfl, rfl, rfl, rfl, trivial⟩
set_option maxHeartbeats 4000000 in
set_option maxRecDepth 100000 in
theorem w_L_isPart_42 {l : Launch} {G : GL} {ad : Nat → Nat} {MM : Mem} {X : CT} (hX : Cx l { frames := 5, cells := 0, slots := 0, locals := 129 } cL_isPart RL 9 (some .boolean) G ad X) : ∀ (x1 : Int32) (x2 : Int32) (x3 : Int32) (x4 : Int32) (x5 : Int32) (s0 : Int32) (M : Mem) {L : List (Option Value)}, lsub [some (.ref (ad 0)), some (.int x1), some (.int x2), some (.int x3), some (.int x4), some (.int x5), none, none, none] L → KF l { frames := 5, cells := 0, slots := 0, locals := 129 } 9 G ad (EC G ad MM) (QP PostI G ad (EC G ad MM)) X (f_L_isPart_42 x1 x2 x3 x4 x5 s0 M) L 42 [.int s0] M := by
  intro x1 x2 x3 x4 x5 s0 M L hL
  unfold f_L_isPart_42
  refine KF.locals (lsub_le hL) ?_
  refine k_istore (L' := [some (.ref (ad 0)), some (.int x1), some (.int x2), some (.int x3), some (.int x4), some (.int x5), some (.int s0), none, none]) hX (by decide) rfl dL_isPart_42 ?_
  refine k_iconst (v := (nI 0)) hX rfl dL_isPart_44 ?_
  refine k_istore (L' := [some (.ref (ad 0)), some (.int x1), some (.int x2), some (.int x3), some (.int x4), some (.int x5), some (.int s0), some (.int (nI 0)), none]) hX (by decide) rfl dL_isPart_45 ?_
  exact w_L_isPart_47 hX fuelN x1 x2 x3 x4 x5 s0 (nI 0) M ⟨rfl, rfl, rfl, rfl, rfl, rfl, rfl, rfl, trivial⟩
set_option maxHeartbeats 4000000 in
set_option maxRecDepth 100000 in
theorem w_L_isPart_41 {l : Launch} {G : GL} {ad : Nat → Nat} {MM : Mem} {X : CT} (hX : Cx l { frames := 5, cells := 0, slots := 0, locals := 129 } cL_isPart RL 9 (some .boolean) G ad X) : ∀ (x1 : Int32) (x2 : Int32) (x3 : Int32) (x4 : Int32) (x5 : Int32) (M : Mem) {L : List (Option Value)}, lsub [some (.ref (ad 0)), some (.int x1), some (.int x2), some (.int x3), some (.int x4), some (.int x5), none, none, none] L → KF l { frames := 5, cells := 0, slots := 0, locals := 129 } 9 G ad (EC G ad MM) (QP PostI G ad (EC G ad MM)) X (f_L_isPart_41 x1 x2 x3 x4 x5 M) L 41 [] M := by
  intro x1 x2 x3 x4 x5 M L hL
  unfold f_L_isPart_41
  refine KF.locals (lsub_le hL) ?_
  refine k_iconst (v := (nI 0)) hX rfl dL_isPart_41 ?_
  exact w_L_isPart_42 hX x1 x2 x3 x4 x5 (nI 0) M ⟨rfl, rfl, rfl, rfl, rfl, rfl, trivial⟩
set_option maxHeartbeats 4000000 in
set_option maxRecDepth 100000 in
theorem w_L_isPart {l : Launch} {G : GL} {ad : Nat → Nat} {MM : Mem} {X : CT} (hX : Cx l { frames := 5, cells := 0, slots := 0, locals := 129 } cL_isPart RL 9 (some .boolean) G ad X) {p2 : Int32} {p3 : Int32} {M : Mem} : KF l { frames := 5, cells := 0, slots := 0, locals := 129 } 9 G ad (EC G ad MM) (QP PostI G ad (EC G ad MM)) X (f_L_isPart p2 p3 M) [some (.ref (ad 0)), some (.int p2), some (.int p3), none, none, none, none, none, none] 0 [] M := by
  unfold f_L_isPart
  refine k_aload_n hX (i := 0) rfl rfl dL_isPart_0 ?_
  refine k_iload_n hX (i := 1) rfl rfl dL_isPart_1 ?_
  refine k_iload_n hX (i := 2) rfl rfl dL_isPart_2 ?_
  refine k_iconst (v := (nI 1)) hX rfl dL_isPart_3 ?_
  refine k_callVI (vs := [.int p2, .int p3, .int (nI 1)]) hX (fun _ h9 => m_X6_part hX.2.2.2.2.2.2.1  h9) io_0 rfl ml_L_29 ⟨Nat.le_of_ble_eq_true rfl, Nat.le_of_ble_eq_true rfl⟩ rfl rfl (Nat.le_of_ble_eq_true rfl) dL_isPart_4 (fun q1 => ?_)
  refine k_istore_n (L' := [some (.ref (ad 0)), some (.int p2), some (.int p3), some (.int q1.1), none, none, none, none, none]) hX (i := 3) rfl (by decide) rfl dL_isPart_7 ?_
  refine k_iconst (v := (nI 0)) hX rfl dL_isPart_8 ?_
  refine k_istore (L' := [some (.ref (ad 0)), some (.int p2), some (.int p3), some (.int q1.1), some (.int (nI 0)), none, none, none, none]) hX (by decide) rfl dL_isPart_9 ?_
  refine k_iconst (v := (nI 0)) hX rfl dL_isPart_11 ?_
  refine k_istore (L' := [some (.ref (ad 0)), some (.int p2), some (.int p3), some (.int q1.1), some (.int (nI 0)), some (.int (nI 0)), none, none, none]) hX (by decide) rfl dL_isPart_12 ?_
  refine k_aload_n hX (i := 0) rfl rfl dL_isPart_14 ?_
  refine k_iload_n hX (i := 1) rfl rfl dL_isPart_15 ?_
  refine k_iload_n hX (i := 2) rfl rfl dL_isPart_16 ?_
  refine k_iload_n hX (i := 3) rfl rfl dL_isPart_17 ?_
  refine k_callVI (vs := [.int p2, .int p3, .int q1.1]) hX (fun _ h9 => m_X6_letter hX.2.2.2.2.2.2.1  h9) io_0 rfl ml_L_33 ⟨Nat.le_of_ble_eq_true rfl, Nat.le_of_ble_eq_true rfl⟩ rfl rfl (Nat.le_of_ble_eq_true rfl) dL_isPart_18 (fun q2 => ?_)
  refine k_bipush (v := (-5)) hX rfl dL_isPart_21 ?_
  refine k_icmp_ne (tgt := 41) hX dL_isPart_23 (by decide) (fun b3 => ?_) (fun b3 => ?_)
  · exact w_L_isPart_41 hX p2 p3 q1.1 (nI 0) (nI 0) q2.2 ⟨rfl, rfl, rfl, rfl, rfl, rfl, trivial⟩
  refine k_iload_n hX (i := 3) rfl rfl dL_isPart_26 ?_
  refine k_aload_n hX (i := 0) rfl rfl dL_isPart_27 ?_
  refine k_iload_n hX (i := 1) rfl rfl dL_isPart_28 ?_
  refine k_iload_n hX (i := 2) rfl rfl dL_isPart_29 ?_
  refine k_iconst (v := (nI 0)) hX rfl dL_isPart_30 ?_
  refine k_callVI (vs := [.int p2, .int p3, .int (nI 0)]) hX (fun _ h9 => m_X6_part hX.2.2.2.2.2.2.1  h9) io_0 rfl ml_L_29 ⟨Nat.le_of_ble_eq_true rfl, Nat.le_of_ble_eq_true rfl⟩ rfl rfl (Nat.le_of_ble_eq_true rfl) dL_isPart_31 (fun q4 => ?_)
  refine k_icmp_lt (tgt := 41) hX dL_isPart_34 (by decide) (fun b5 => ?_) (fun b5 => ?_)
  · exact w_L_isPart_41 hX p2 p3 q1.1 (nI 0) (nI 0) q4.2 ⟨rfl, rfl, rfl, rfl, rfl, rfl, trivial⟩
  refine k_iconst (v := (nI 1)) hX rfl dL_isPart_37 ?_
  refine k_goto (tgt := 42) hX dL_isPart_38 (by decide) ?_
  exact w_L_isPart_42 hX p2 p3 q1.1 (nI 0) (nI 0) (nI 1) q4.2 ⟨rfl, rfl, rfl, rfl, rfl, rfl, trivial⟩
set_option maxRecDepth 100000 in
theorem m_L_isPart {l : Launch} {G : GL} {ad : Nat → Nat} {MM : Mem} (hAd : AdOK G ad) {p2 : Int32} {p3 : Int32} {M : Mem} {r : Rv} (h : f_L_isPart p2 p3 M = some r) : Ct PostI l G ad (EC G ad MM) yL_isPart cL_isPart 9 (some .boolean) 5 129 [.ref (ad 0), .int p2, .int p3] M r := ct_of' hAd (by decide +kernel) (List.forall_mem_cons.mpr ⟨rfl, (List.forall_mem_cons.mpr ⟨rfl, (List.forall_mem_cons.mpr ⟨rfl, (fun _ h => absurd h List.not_mem_nil)⟩)⟩)⟩) (Nat.le_of_ble_eq_true rfl) (L := [some (.ref (ad 0)), some (.int p2), some (.int p3), none, none, none, none, none, none]) rfl (fun _ hX => w_L_isPart hX) h
set_option maxHeartbeats 4000000 in
set_option maxRecDepth 100000 in
theorem w_L_isWish_127 {l : Launch} {G : GL} {ad : Nat → Nat} {MM : Mem} {X : CT} (hX : Cx l { frames := 6, cells := 0, slots := 0, locals := 157 } cL_isWish RL 10 (some .boolean) G ad X) {k58 : Int32 → Int32 → Int32 → Int32 → Int32 → Int32 → Int32 → Int32 → Int32 → Mem → Option Rv} (hk58 : ∀ (x1 : Int32) (x2 : Int32) (x3 : Int32) (x4 : Int32) (x5 : Int32) (x6 : Int32) (x7 : Int32) (x8 : Int32) (x9 : Int32) (M : Mem) {L : List (Option Value)}, lsub [some (.ref (ad 0)), some (.int x1), some (.int x2), some (.int x3), some (.int x4), some (.int x5), some (.int x6), some (.int x7), some (.int x8), some (.int x9)] L → KF l { frames := 6, cells := 0, slots := 0, locals := 157 } 10 G ad (EC G ad MM) (QP PostI G ad (EC G ad MM)) X (k58 x1 x2 x3 x4 x5 x6 x7 x8 x9 M) L 58 [] M) : ∀ (x1 : Int32) (x2 : Int32) (x3 : Int32) (x4 : Int32) (x6 : Int32) (x7 : Int32) (x8 : Int32) (x9 : Int32) (s0 : Int32) (s1 : Int32) (M : Mem) {L : List (Option Value)}, lsub [some (.ref (ad 0)), some (.int x1), some (.int x2), some (.int x3), some (.int x4), none, some (.int x6), some (.int x7), some (.int x8), some (.int x9)] L → KF l { frames := 6, cells := 0, slots := 0, locals := 157 } 10 G ad (EC G ad MM) (QP PostI G ad (EC G ad MM)) X (f_L_isWish_127 k58 x1 x2 x3 x4 x6 x7 x8 x9 s0 s1 M) L 127 [.int s0, .int s1] M := by
  intro x1 x2 x3 x4 x6 x7 x8 x9 s0 s1 M L hL
  unfold f_L_isWish_127
  refine KF.locals (lsub_le hL) ?_
  refine k_ior hX dL_isWish_127 ?_
  refine k_istore (L' := [some (.ref (ad 0)), some (.int x1), some (.int x2), some (.int x3), some (.int x4), some (.int (s1 ||| s0)), some (.int x6), some (.int x7), some (.int x8), some (.int x9)]) hX (by decide) rfl dL_isWish_128 ?_
  refine k_iload hX rfl dL_isWish_130 ?_
  refine k_aload_n hX (i := 0) rfl rfl dL_isWish_132 ?_
  refine k_iload_n hX (i := 1) rfl rfl dL_isWish_133 ?_
  refine k_iload hX rfl dL_isWish_134 ?_
  refine k_iconst (v := (nI 0)) hX rfl dL_isWish_136 ?_
  refine k_callVI (vs := [.int x1, .int x9, .int (nI 0)]) hX (fun _ h9 => m_X6_part hX.2.2.2.2.2.2.1  h9) io_0 rfl ml_L_29 ⟨Nat.le_of_ble_eq_true rfl, Nat.le_of_ble_eq_true rfl⟩ rfl rfl (Nat.le_of_ble_eq_true rfl) dL_isWish_137 (fun q1 => ?_)
  refine k_iadd hX dL_isWish_140 ?_
  refine k_istore (L' := [some (.ref (ad 0)), some (.int x1), some (.int x2), some (.int x3), some (.int x4), some (.int (s1 ||| s0)), some (.int (x6 + q1.1)), some (.int x7), some (.int x8), some (.int x9)]) hX (by decide) rfl dL_isWish_141 ?_
  refine k_iload hX rfl dL_isWish_143 ?_
  refine k_aload_n hX (i := 0) rfl rfl dL_isWish_145 ?_
  refine k_iload_n hX (i := 1) rfl rfl dL_isWish_146 ?_
  refine k_iload hX rfl dL_isWish_147 ?_
  refine k_iconst (v := (nI 3)) hX rfl dL_isWish_149 ?_
  refine k_callVI (vs := [.int x1, .int x9, .int (nI 3)]) hX (fun _ h9 => m_X6_part hX.2.2.2.2.2.2.1  h9) io_0 rfl ml_L_29 ⟨Nat.le_of_ble_eq_true rfl, Nat.le_of_ble_eq_true rfl⟩ rfl rfl (Nat.le_of_ble_eq_true rfl) dL_isWish_150 (fun q2 => ?_)
  refine k_iadd hX dL_isWish_153 ?_
  refine k_istore (L' := [some (.ref (ad 0)), some (.int x1), some (.int x2), some (.int x3), some (.int x4), some (.int (s1 ||| s0)), some (.int (x6 + q1.1)), some (.int (x7 + q2.1)), some (.int x8), some (.int x9)]) hX (by decide) rfl dL_isWish_154 ?_
  refine k_iinc (v := x9 + nI 1) (L' := [some (.ref (ad 0)), some (.int x1), some (.int x2), some (.int x3), some (.int x4), some (.int (s1 ||| s0)), some (.int (x6 + q1.1)), some (.int (x7 + q2.1)), some (.int x8), some (.int (x9 + nI 1))]) hX (i := 9) rfl rfl (by decide) rfl dL_isWish_156 ?_
  refine k_goto (tgt := 58) hX dL_isWish_159 (by decide) ?_
  exact hk58 x1 x2 x3 x4 (s1 ||| s0) (x6 + q1.1) (x7 + q2.1) x8 (x9 + nI 1) q2.2 ⟨rfl, rfl, rfl, rfl, rfl, rfl, rfl, rfl, rfl, rfl, trivial⟩
set_option maxHeartbeats 4000000 in
set_option maxRecDepth 100000 in
theorem w_L_isWish_101 {l : Launch} {G : GL} {ad : Nat → Nat} {MM : Mem} {X : CT} (hX : Cx l { frames := 6, cells := 0, slots := 0, locals := 157 } cL_isWish RL 10 (some .boolean) G ad X) {k58 : Int32 → Int32 → Int32 → Int32 → Int32 → Int32 → Int32 → Int32 → Int32 → Mem → Option Rv} (hk58 : ∀ (x1 : Int32) (x2 : Int32) (x3 : Int32) (x4 : Int32) (x5 : Int32) (x6 : Int32) (x7 : Int32) (x8 : Int32) (x9 : Int32) (M : Mem) {L : List (Option Value)}, lsub [some (.ref (ad 0)), some (.int x1), some (.int x2), some (.int x3), some (.int x4), some (.int x5), some (.int x6), some (.int x7), some (.int x8), some (.int x9)] L → KF l { frames := 6, cells := 0, slots := 0, locals := 157 } 10 G ad (EC G ad MM) (QP PostI G ad (EC G ad MM)) X (k58 x1 x2 x3 x4 x5 x6 x7 x8 x9 M) L 58 [] M) : ∀ (x1 : Int32) (x2 : Int32) (x3 : Int32) (x5 : Int32) (x6 : Int32) (x7 : Int32) (x8 : Int32) (x9 : Int32) (s0 : Int32) (s1 : Int32) (M : Mem) {L : List (Option Value)}, lsub [some (.ref (ad 0)), some (.int x1), some (.int x2), some (.int x3), none, some (.int x5), some (.int x6), some (.int x7), some (.int x8), some (.int x9)] L → KF l { frames := 6, cells := 0, slots := 0, locals := 157 } 10 G ad (EC G ad MM) (QP PostI G ad (EC G ad MM)) X (f_L_isWish_101 k58 x1 x2 x3 x5 x6 x7 x8 x9 s0 s1 M) L 101 [.int s0, .int s1] M := by
  intro x1 x2 x3 x5 x6 x7 x8 x9 s0 s1 M L hL
  unfold f_L_isWish_101
  refine KF.locals (lsub_le hL) ?_
  refine k_ior hX dL_isWish_101 ?_
  refine k_istore (L' := [some (.ref (ad 0)), some (.int x1), some (.int x2), some (.int x3), some (.int (s1 ||| s0)), some (.int x5), some (.int x6), some (.int x7), some (.int x8), some (.int x9)]) hX (by decide) rfl dL_isWish_102 ?_
  refine k_iload hX rfl dL_isWish_104 ?_
  refine k_aload_n hX (i := 0) rfl rfl dL_isWish_106 ?_
  refine k_iload_n hX (i := 1) rfl rfl dL_isWish_107 ?_
  refine k_iload hX rfl dL_isWish_108 ?_
  refine k_iconst (v := (nI 0)) hX rfl dL_isWish_110 ?_
  refine k_callVI (vs := [.int x1, .int x9, .int (nI 0)]) hX (fun _ h9 => m_X6_letter hX.2.2.2.2.2.2.1  h9) io_0 rfl ml_L_33 ⟨Nat.le_of_ble_eq_true rfl, Nat.le_of_ble_eq_true rfl⟩ rfl rfl (Nat.le_of_ble_eq_true rfl) dL_isWish_111 (fun q1 => ?_)
  refine k_bipush (v := (nI 49)) hX rfl dL_isWish_114 ?_
  refine k_icmp_ne (tgt := 126) hX dL_isWish_116 (by decide) (fun b2 => ?_) (fun b2 => ?_)
  · refine k_iconst (v := (nI 0)) hX rfl dL_isWish_126 ?_
    exact w_L_isWish_127 hX hk58 x1 x2 x3 (s1 ||| s0) x6 x7 x8 x9 (nI 0) x5 q1.2 ⟨rfl, rfl, rfl, rfl, rfl, rfl, rfl, rfl, rfl, trivial⟩
  refine k_iconst (v := (nI 1)) hX rfl dL_isWish_119 ?_
  refine k_iload hX rfl dL_isWish_120 ?_
  refine k_ishl hX dL_isWish_122 ?_
  refine k_goto (tgt := 127) hX dL_isWish_123 (by decide) ?_
  exact w_L_isWish_127 hX hk58 x1 x2 x3 (s1 ||| s0) x6 x7 x8 x9 ((nI 1) <<< (x9 &&& nI 31)) x5 q1.2 ⟨rfl, rfl, rfl, rfl, rfl, rfl, rfl, rfl, rfl, trivial⟩
set_option maxHeartbeats 4000000 in
set_option maxRecDepth 100000 in
theorem w_L_isWish_342 {l : Launch} {G : GL} {ad : Nat → Nat} {MM : Mem} {X : CT} (hX : Cx l { frames := 6, cells := 0, slots := 0, locals := 157 } cL_isWish RL 10 (some .boolean) G ad X) : ∀ (s0 : Int32) (M : Mem) {L : List (Option Value)}, lsub [none, none, none, none, none, none, none, none, none, none] L → KF l { frames := 6, cells := 0, slots := 0, locals := 157 } 10 G ad (EC G ad MM) (QP PostI G ad (EC G ad MM)) X (f_L_isWish_342 s0 M) L 342 [.int s0] M := by
  intro s0 M L hL
  unfold f_L_isWish_342
  refine KF.locals (lsub_le hL) ?_
  exact k_zret hX dL_isWish_342
set_option maxHeartbeats 4000000 in
set_option maxRecDepth 100000 in
theorem w_L_isWish_337 {l : Launch} {G : GL} {ad : Nat → Nat} {MM : Mem} {X : CT} (hX : Cx l { frames := 6, cells := 0, slots := 0, locals := 157 } cL_isWish RL 10 (some .boolean) G ad X) : ∀ (M : Mem) {L : List (Option Value)}, lsub [none, none, none, none, none, none, none, none, none, none] L → KF l { frames := 6, cells := 0, slots := 0, locals := 157 } 10 G ad (EC G ad MM) (QP PostI G ad (EC G ad MM)) X (f_L_isWish_337 M) L 337 [] M := by
  intro M L hL
  unfold f_L_isWish_337
  refine KF.locals (lsub_le hL) ?_
  refine k_iconst (v := (nI 1)) hX rfl dL_isWish_337 ?_
  refine k_goto (tgt := 342) hX dL_isWish_338 (by decide) ?_
  exact w_L_isWish_342 hX (nI 1) M trivial
set_option maxHeartbeats 4000000 in
set_option maxRecDepth 100000 in
theorem w_L_isWish_341 {l : Launch} {G : GL} {ad : Nat → Nat} {MM : Mem} {X : CT} (hX : Cx l { frames := 6, cells := 0, slots := 0, locals := 157 } cL_isWish RL 10 (some .boolean) G ad X) : ∀ (M : Mem) {L : List (Option Value)}, lsub [none, none, none, none, none, none, none, none, none, none] L → KF l { frames := 6, cells := 0, slots := 0, locals := 157 } 10 G ad (EC G ad MM) (QP PostI G ad (EC G ad MM)) X (f_L_isWish_341 M) L 341 [] M := by
  intro M L hL
  unfold f_L_isWish_341
  refine KF.locals (lsub_le hL) ?_
  refine k_iconst (v := (nI 0)) hX rfl dL_isWish_341 ?_
  exact w_L_isWish_342 hX (nI 0) M trivial
set_option maxHeartbeats 4000000 in
set_option maxRecDepth 100000 in
theorem w_L_isWish_315 {l : Launch} {G : GL} {ad : Nat → Nat} {MM : Mem} {X : CT} (hX : Cx l { frames := 6, cells := 0, slots := 0, locals := 157 } cL_isWish RL 10 (some .boolean) G ad X) : ∀ (x1 : Int32) (x2 : Int32) (M : Mem) {L : List (Option Value)}, lsub [some (.ref (ad 0)), some (.int x1), some (.int x2), none, none, none, none, none, none, none] L → KF l { frames := 6, cells := 0, slots := 0, locals := 157 } 10 G ad (EC G ad MM) (QP PostI G ad (EC G ad MM)) X (f_L_isWish_315 x1 x2 M) L 315 [] M := by
  intro x1 x2 M L hL
  unfold f_L_isWish_315
  refine KF.locals (lsub_le hL) ?_
  refine k_aload_n hX (i := 0) rfl rfl dL_isWish_315 ?_
  refine k_iload_n hX (i := 1) rfl rfl dL_isWish_316 ?_
  refine k_iconst (v := (nI 5)) hX rfl dL_isWish_317 ?_
  refine k_callVI (vs := [.int x1, .int (nI 5)]) hX (fun _ h9 => m_X6_wish hX.2.2.2.2.2.2.1  h9) io_0 rfl ml_L_36 ⟨Nat.le_of_ble_eq_true rfl, Nat.le_of_ble_eq_true rfl⟩ rfl rfl (Nat.le_of_ble_eq_true rfl) dL_isWish_318 (fun q1 => ?_)
  refine k_if_eq (tgt := 337) hX dL_isWish_321 (by decide) (fun b2 => ?_) (fun b2 => ?_)
  · exact w_L_isWish_337 hX q1.2 trivial
  refine k_iload_n hX (i := 2) rfl rfl dL_isWish_324 ?_
  refine k_if_ne (tgt := 341) hX dL_isWish_325 (by decide) (fun b3 => ?_) (fun b3 => ?_)
  · exact w_L_isWish_341 hX q1.2 trivial
  refine k_aload_n hX (i := 0) rfl rfl dL_isWish_328 ?_
  refine k_iload_n hX (i := 1) rfl rfl dL_isWish_329 ?_
  refine k_iconst (v := (nI 4)) hX rfl dL_isWish_330 ?_
  refine k_callVI (vs := [.int x1, .int (nI 4)]) hX (fun _ h9 => m_X6_wish hX.2.2.2.2.2.2.1  h9) io_0 rfl ml_L_36 ⟨Nat.le_of_ble_eq_true rfl, Nat.le_of_ble_eq_true rfl⟩ rfl rfl (Nat.le_of_ble_eq_true rfl) dL_isWish_331 (fun q4 => ?_)
  refine k_if_lt (tgt := 341) hX dL_isWish_334 (by decide) (fun b5 => ?_) (fun b5 => ?_)
  · exact w_L_isWish_341 hX q4.2 trivial
  exact w_L_isWish_337 hX q4.2 trivial
set_option maxHeartbeats 4000000 in
set_option maxRecDepth 100000 in
theorem w_L_isWish_276 {l : Launch} {G : GL} {ad : Nat → Nat} {MM : Mem} {X : CT} (hX : Cx l { frames := 6, cells := 0, slots := 0, locals := 157 } cL_isWish RL 10 (some .boolean) G ad X) : ∀ (x1 : Int32) (x2 : Int32) (s0 : Int32) (M : Mem) {L : List (Option Value)}, lsub [some (.ref (ad 0)), some (.int x1), some (.int x2), none, none, none, none, none, none, none] L → KF l { frames := 6, cells := 0, slots := 0, locals := 157 } 10 G ad (EC G ad MM) (QP PostI G ad (EC G ad MM)) X (f_L_isWish_276 x1 x2 s0 M) L 276 [.int s0] M := by
  intro x1 x2 s0 M L hL
  unfold f_L_isWish_276
  refine KF.locals (lsub_le hL) ?_
  refine k_istore (L' := [some (.ref (ad 0)), some (.int x1), some (.int x2), none, none, none, none, none, some (.int s0), none]) hX (by decide) rfl dL_isWish_276 ?_
  refine k_iload hX rfl dL_isWish_278 ?_
  refine k_if_eq (tgt := 341) hX dL_isWish_280 (by decide) (fun b1 => ?_) (fun b1 => ?_)
  · exact w_L_isWish_341 hX M trivial
  refine k_aload_n hX (i := 0) rfl rfl dL_isWish_283 ?_
  refine k_iload_n hX (i := 1) rfl rfl dL_isWish_284 ?_
  refine k_iconst (v := (nI 4)) hX rfl dL_isWish_285 ?_
  refine k_callVI (vs := [.int x1, .int (nI 4)]) hX (fun _ h9 => m_X6_wish hX.2.2.2.2.2.2.1  h9) io_0 rfl ml_L_36 ⟨Nat.le_of_ble_eq_true rfl, Nat.le_of_ble_eq_true rfl⟩ rfl rfl (Nat.le_of_ble_eq_true rfl) dL_isWish_286 (fun q2 => ?_)
  refine k_bipush (v := (-5)) hX rfl dL_isWish_289 ?_
  refine k_icmp_eq (tgt := 315) hX dL_isWish_291 (by decide) (fun b3 => ?_) (fun b3 => ?_)
  · exact w_L_isWish_315 hX x1 x2 q2.2 ⟨rfl, rfl, rfl, trivial⟩
  refine k_iload_n hX (i := 2) rfl rfl dL_isWish_294 ?_
  refine k_iconst (v := (nI 2)) hX rfl dL_isWish_295 ?_
  refine k_icmp_ge (tgt := 341) hX dL_isWish_296 (by decide) (fun b4 => ?_) (fun b4 => ?_)
  · exact w_L_isWish_341 hX q2.2 trivial
  refine k_aload_n hX (i := 0) rfl rfl dL_isWish_299 ?_
  refine k_iload_n hX (i := 1) rfl rfl dL_isWish_300 ?_
  refine k_iconst (v := (nI 4)) hX rfl dL_isWish_301 ?_
  refine k_callVI (vs := [.int x1, .int (nI 4)]) hX (fun _ h9 => m_X6_wish hX.2.2.2.2.2.2.1  h9) io_0 rfl ml_L_36 ⟨Nat.le_of_ble_eq_true rfl, Nat.le_of_ble_eq_true rfl⟩ rfl rfl (Nat.le_of_ble_eq_true rfl) dL_isWish_302 (fun q5 => ?_)
  refine k_aload_n hX (i := 0) rfl rfl dL_isWish_305 ?_
  refine k_iload_n hX (i := 1) rfl rfl dL_isWish_306 ?_
  refine k_bipush (v := (nI 8)) hX rfl dL_isWish_307 ?_
  refine k_callVI (vs := [.int x1, .int (nI 8)]) hX (fun _ h9 => m_X6_wish hX.2.2.2.2.2.2.1  h9) io_0 rfl ml_L_36 ⟨Nat.le_of_ble_eq_true rfl, Nat.le_of_ble_eq_true rfl⟩ rfl rfl (Nat.le_of_ble_eq_true rfl) dL_isWish_309 (fun q6 => ?_)
  refine k_icmp_lt (tgt := 341) hX dL_isWish_312 (by decide) (fun b7 => ?_) (fun b7 => ?_)
  · exact w_L_isWish_341 hX q6.2 trivial
  exact w_L_isWish_315 hX x1 x2 q6.2 ⟨rfl, rfl, rfl, trivial⟩
set_option maxHeartbeats 4000000 in
set_option maxRecDepth 100000 in
theorem w_L_isWish_275 {l : Launch} {G : GL} {ad : Nat → Nat} {MM : Mem} {X : CT} (hX : Cx l { frames := 6, cells := 0, slots := 0, locals := 157 } cL_isWish RL 10 (some .boolean) G ad X) : ∀ (x1 : Int32) (x2 : Int32) (M : Mem) {L : List (Option Value)}, lsub [some (.ref (ad 0)), some (.int x1), some (.int x2), none, none, none, none, none, none, none] L → KF l { frames := 6, cells := 0, slots := 0, locals := 157 } 10 G ad (EC G ad MM) (QP PostI G ad (EC G ad MM)) X (f_L_isWish_275 x1 x2 M) L 275 [] M := by
  intro x1 x2 M L hL
  unfold f_L_isWish_275
  refine KF.locals (lsub_le hL) ?_
  refine k_iconst (v := (nI 0)) hX rfl dL_isWish_275 ?_
  exact w_L_isWish_276 hX x1 x2 (nI 0) M ⟨rfl, rfl, rfl, trivial⟩
set_option maxHeartbeats 4000000 in
set_option maxRecDepth 100000 in
theorem w_L_isWish_268 {l : Launch} {G : GL} {ad : Nat → Nat} {MM : Mem} {X : CT} (hX : Cx l { frames := 6, cells := 0, slots := 0, locals := 157 } cL_isWish RL 10 (some .boolean) G ad X) : ∀ (x1 : Int32) (x2 : Int32) (s0 : Int32) (s1 : Int32) (M : Mem) {L : List (Option Value)}, lsub [some (.ref (ad 0)), some (.int x1), some (.int x2), none, none, none, none, none, none, none] L → KF l { frames := 6, cells := 0, slots := 0, locals := 157 } 10 G ad (EC G ad MM) (QP PostI G ad (EC G ad MM)) X (f_L_isWish_268 x1 x2 s0 s1 M) L 268 [.int s0, .int s1] M := by
  intro x1 x2 s0 s1 M L hL
  unfold f_L_isWish_268
  refine KF.locals (lsub_le hL) ?_
  refine k_icmp_ne (tgt := 275) hX dL_isWish_268 (by decide) (fun b1 => ?_) (fun b1 => ?_)
  · exact w_L_isWish_275 hX x1 x2 M ⟨rfl, rfl, rfl, trivial⟩
  refine k_iconst (v := (nI 1)) hX rfl dL_isWish_271 ?_
  refine k_goto (tgt := 276) hX dL_isWish_272 (by decide) ?_
  exact w_L_isWish_276 hX x1 x2 (nI 1) M ⟨rfl, rfl, rfl, trivial⟩
set_option maxHeartbeats 4000000 in
set_option maxRecDepth 100000 in
theorem w_L_isWish_238 {l : Launch} {G : GL} {ad : Nat → Nat} {MM : Mem} {X : CT} (hX : Cx l { frames := 6, cells := 0, slots := 0, locals := 157 } cL_isWish RL 10 (some .boolean) G ad X) : ∀ (x1 : Int32) (x2 : Int32) (x3 : Int32) (x7 : Int32) (s0 : Int32) (s1 : Int32) (M : Mem) {L : List (Option Value)}, lsub [some (.ref (ad 0)), some (.int x1), some (.int x2), some (.int x3), none, none, none, some (.int x7), none, none] L → KF l { frames := 6, cells := 0, slots := 0, locals := 157 } 10 G ad (EC G ad MM) (QP PostI G ad (EC G ad MM)) X (f_L_isWish_238 x1 x2 x3 x7 s0 s1 M) L 238 [.int s0, .int s1] M := by
  intro x1 x2 x3 x7 s0 s1 M L hL
  unfold f_L_isWish_238
  refine KF.locals (lsub_le hL) ?_
  refine k_icmp_ne (tgt := 275) hX dL_isWish_238 (by decide) (fun b1 => ?_) (fun b1 => ?_)
  · exact w_L_isWish_275 hX x1 x2 M ⟨rfl, rfl, rfl, trivial⟩
  refine k_aload_n hX (i := 0) rfl rfl dL_isWish_241 ?_
  refine k_iload_n hX (i := 1) rfl rfl dL_isWish_242 ?_
  refine k_bipush (v := (nI 6)) hX rfl dL_isWish_243 ?_
  refine k_callVI (vs := [.int x1, .int (nI 6)]) hX (fun _ h9 => m_X6_wish hX.2.2.2.2.2.2.1  h9) io_0 rfl ml_L_36 ⟨Nat.le_of_ble_eq_true rfl, Nat.le_of_ble_eq_true rfl⟩ rfl rfl (Nat.le_of_ble_eq_true rfl) dL_isWish_245 (fun q2 => ?_)
  refine k_iload_n hX (i := 2) rfl rfl dL_isWish_248 ?_
  refine k_iconst (v := (nI 2)) hX rfl dL_isWish_249 ?_
  refine k_icmp_ge (tgt := 257) hX dL_isWish_250 (by decide) (fun b3 => ?_) (fun b3 => ?_)
  · refine k_iload hX rfl dL_isWish_257 ?_
    refine k_iload_n hX (i := 3) rfl rfl dL_isWish_259 ?_
    refine k_icmp_ne (tgt := 267) hX dL_isWish_260 (by decide) (fun b4 => ?_) (fun b4 => ?_)
    · refine k_iconst (v := (nI 0)) hX rfl dL_isWish_267 ?_
      exact w_L_isWish_268 hX x1 x2 (nI 0) q2.1 q2.2 ⟨rfl, rfl, rfl, trivial⟩
    refine k_iconst (v := (nI 1)) hX rfl dL_isWish_263 ?_
    refine k_goto (tgt := 268) hX dL_isWish_264 (by decide) ?_
    exact w_L_isWish_268 hX x1 x2 (nI 1) q2.1 q2.2 ⟨rfl, rfl, rfl, trivial⟩
  refine k_iload_n hX (i := 2) rfl rfl dL_isWish_253 ?_
  refine k_goto (tgt := 268) hX dL_isWish_254 (by decide) ?_
  exact w_L_isWish_268 hX x1 x2 x2 q2.1 q2.2 ⟨rfl, rfl, rfl, trivial⟩
set_option maxHeartbeats 4000000 in
set_option maxRecDepth 100000 in
theorem w_L_isWish_206 {l : Launch} {G : GL} {ad : Nat → Nat} {MM : Mem} {X : CT} (hX : Cx l { frames := 6, cells := 0, slots := 0, locals := 157 } cL_isWish RL 10 (some .boolean) G ad X) : ∀ (x1 : Int32) (x2 : Int32) (x3 : Int32) (x4 : Int32) (x5 : Int32) (x7 : Int32) (s0 : Int32) (M : Mem) {L : List (Option Value)}, lsub [some (.ref (ad 0)), some (.int x1), some (.int x2), some (.int x3), some (.int x4), some (.int x5), none, some (.int x7), none, none] L → KF l { frames := 6, cells := 0, slots := 0, locals := 157 } 10 G ad (EC G ad MM) (QP PostI G ad (EC G ad MM)) X (f_L_isWish_206 x1 x2 x3 x4 x5 x7 s0 M) L 206 [.int s0] M := by
  intro x1 x2 x3 x4 x5 x7 s0 M L hL
  unfold f_L_isWish_206
  refine KF.locals (lsub_le hL) ?_
  refine k_istore (L' := [some (.ref (ad 0)), some (.int x1), some (.int x2), some (.int x3), some (.int x4), some (.int x5), none, some (.int x7), some (.int s0), none]) hX (by decide) rfl dL_isWish_206 ?_
  refine k_iload hX rfl dL_isWish_208 ?_
  refine k_if_eq (tgt := 275) hX dL_isWish_210 (by decide) (fun b1 => ?_) (fun b1 => ?_)
  · exact w_L_isWish_275 hX x1 x2 M ⟨rfl, rfl, rfl, trivial⟩
  refine k_iload_n hX (i := 2) rfl rfl dL_isWish_213 ?_
  refine k_iload hX rfl dL_isWish_214 ?_
  refine k_if_eq (tgt := 223) hX dL_isWish_216 (by decide) (fun b2 => ?_) (fun b2 => ?_)
  · refine k_iload hX rfl dL_isWish_223 ?_
    refine k_iconst (v := (nI 1)) hX rfl dL_isWish_225 ?_
    refine k_iload_n hX (i := 3) rfl rfl dL_isWish_226 ?_
    refine k_ishl hX dL_isWish_227 ?_
    refine k_iconst (v := (nI 1)) hX rfl dL_isWish_228 ?_
    refine k_isub hX dL_isWish_229 ?_
    refine k_icmp_ne (tgt := 237) hX dL_isWish_230 (by decide) (fun b3 => ?_) (fun b3 => ?_)
    · refine k_iconst (v := (nI 2)) hX rfl dL_isWish_237 ?_
      exact w_L_isWish_238 hX x1 x2 x3 x7 (nI 2) x2 M ⟨rfl, rfl, rfl, rfl, rfl, trivial⟩
    refine k_iconst (v := (nI 1)) hX rfl dL_isWish_233 ?_
    refine k_goto (tgt := 238) hX dL_isWish_234 (by decide) ?_
    exact w_L_isWish_238 hX x1 x2 x3 x7 (nI 1) x2 M ⟨rfl, rfl, rfl, rfl, rfl, trivial⟩
  refine k_iconst (v := (nI 0)) hX rfl dL_isWish_219 ?_
  refine k_goto (tgt := 238) hX dL_isWish_220 (by decide) ?_
  exact w_L_isWish_238 hX x1 x2 x3 x7 (nI 0) x2 M ⟨rfl, rfl, rfl, rfl, rfl, trivial⟩
set_option maxHeartbeats 4000000 in
set_option maxRecDepth 100000 in
theorem w_L_isWish_205 {l : Launch} {G : GL} {ad : Nat → Nat} {MM : Mem} {X : CT} (hX : Cx l { frames := 6, cells := 0, slots := 0, locals := 157 } cL_isWish RL 10 (some .boolean) G ad X) : ∀ (x1 : Int32) (x2 : Int32) (x3 : Int32) (x4 : Int32) (x5 : Int32) (x7 : Int32) (M : Mem) {L : List (Option Value)}, lsub [some (.ref (ad 0)), some (.int x1), some (.int x2), some (.int x3), some (.int x4), some (.int x5), none, some (.int x7), none, none] L → KF l { frames := 6, cells := 0, slots := 0, locals := 157 } 10 G ad (EC G ad MM) (QP PostI G ad (EC G ad MM)) X (f_L_isWish_205 x1 x2 x3 x4 x5 x7 M) L 205 [] M := by
  intro x1 x2 x3 x4 x5 x7 M L hL
  unfold f_L_isWish_205
  refine KF.locals (lsub_le hL) ?_
  refine k_iconst (v := (nI 0)) hX rfl dL_isWish_205 ?_
  exact w_L_isWish_206 hX x1 x2 x3 x4 x5 x7 (nI 0) M ⟨rfl, rfl, rfl, rfl, rfl, rfl, rfl, trivial⟩
set_option maxHeartbeats 4000000 in
set_option maxRecDepth 100000 in
theorem w_L_isWish_162 {l : Launch} {G : GL} {ad : Nat → Nat} {MM : Mem} {X : CT} (hX : Cx l { frames := 6, cells := 0, slots := 0, locals := 157 } cL_isWish RL 10 (some .boolean) G ad X) : ∀ (x1 : Int32) (x2 : Int32) (x3 : Int32) (x4 : Int32) (x5 : Int32) (x6 : Int32) (x7 : Int32) (x8 : Int32) (M : Mem) {L : List (Option Value)}, lsub [some (.ref (ad 0)), some (.int x1), some (.int x2), some (.int x3), some (.int x4), some (.int x5), some (.int x6), some (.int x7), some (.int x8), none] L → KF l { frames := 6, cells := 0, slots := 0, locals := 157 } 10 G ad (EC G ad MM) (QP PostI G ad (EC G ad MM)) X (f_L_isWish_162 x1 x2 x3 x4 x5 x6 x7 x8 M) L 162 [] M := by
  intro x1 x2 x3 x4 x5 x6 x7 x8 M L hL
  unfold f_L_isWish_162
  refine KF.locals (lsub_le hL) ?_
  refine k_iload hX rfl dL_isWish_162 ?_
  refine k_if_eq (tgt := 205) hX dL_isWish_164 (by decide) (fun b1 => ?_) (fun b1 => ?_)
  · exact w_L_isWish_205 hX x1 x2 x3 x4 x5 x7 M ⟨rfl, rfl, rfl, rfl, rfl, rfl, rfl, trivial⟩
  refine k_iload hX rfl dL_isWish_167 ?_
  refine k_aload_n hX (i := 0) rfl rfl dL_isWish_169 ?_
  refine k_iload_n hX (i := 1) rfl rfl dL_isWish_170 ?_
  refine k_iconst (v := (nI 2)) hX rfl dL_isWish_171 ?_
  refine k_callVI (vs := [.int x1, .int (nI 2)]) hX (fun _ h9 => m_X6_wish hX.2.2.2.2.2.2.1  h9) io_0 rfl ml_L_36 ⟨Nat.le_of_ble_eq_true rfl, Nat.le_of_ble_eq_true rfl⟩ rfl rfl (Nat.le_of_ble_eq_true rfl) dL_isWish_172 (fun q2 => ?_)
  refine k_icmp_ne (tgt := 205) hX dL_isWish_175 (by decide) (fun b3 => ?_) (fun b3 => ?_)
  · exact w_L_isWish_205 hX x1 x2 x3 x4 x5 x7 q2.2 ⟨rfl, rfl, rfl, rfl, rfl, rfl, rfl, trivial⟩
  refine k_iload hX rfl dL_isWish_178 ?_
  refine k_aload_n hX (i := 0) rfl rfl dL_isWish_180 ?_
  refine k_iload_n hX (i := 1) rfl rfl dL_isWish_181 ?_
  refine k_iconst (v := (nI 3)) hX rfl dL_isWish_182 ?_
  refine k_callVI (vs := [.int x1, .int (nI 3)]) hX (fun _ h9 => m_X6_wish hX.2.2.2.2.2.2.1  h9) io_0 rfl ml_L_36 ⟨Nat.le_of_ble_eq_true rfl, Nat.le_of_ble_eq_true rfl⟩ rfl rfl (Nat.le_of_ble_eq_true rfl) dL_isWish_183 (fun q4 => ?_)
  refine k_icmp_ne (tgt := 205) hX dL_isWish_186 (by decide) (fun b5 => ?_) (fun b5 => ?_)
  · exact w_L_isWish_205 hX x1 x2 x3 x4 x5 x7 q4.2 ⟨rfl, rfl, rfl, rfl, rfl, rfl, rfl, trivial⟩
  refine k_iload hX rfl dL_isWish_189 ?_
  refine k_aload_n hX (i := 0) rfl rfl dL_isWish_191 ?_
  refine k_iload_n hX (i := 1) rfl rfl dL_isWish_192 ?_
  refine k_bipush (v := (nI 7)) hX rfl dL_isWish_193 ?_
  refine k_callVI (vs := [.int x1, .int (nI 7)]) hX (fun _ h9 => m_X6_wish hX.2.2.2.2.2.2.1  h9) io_0 rfl ml_L_36 ⟨Nat.le_of_ble_eq_true rfl, Nat.le_of_ble_eq_true rfl⟩ rfl rfl (Nat.le_of_ble_eq_true rfl) dL_isWish_195 (fun q6 => ?_)
  refine k_icmp_ne (tgt := 205) hX dL_isWish_198 (by decide) (fun b7 => ?_) (fun b7 => ?_)
  · exact w_L_isWish_205 hX x1 x2 x3 x4 x5 x7 q6.2 ⟨rfl, rfl, rfl, rfl, rfl, rfl, rfl, trivial⟩
  refine k_iconst (v := (nI 1)) hX rfl dL_isWish_201 ?_
  refine k_goto (tgt := 206) hX dL_isWish_202 (by decide) ?_
  exact w_L_isWish_206 hX x1 x2 x3 x4 x5 x7 (nI 1) q6.2 ⟨rfl, rfl, rfl, rfl, rfl, rfl, rfl, trivial⟩
set_option maxHeartbeats 4000000 in
set_option maxRecDepth 100000 in
theorem w_L_isWish_58 {l : Launch} {G : GL} {ad : Nat → Nat} {MM : Mem} {X : CT} (hX : Cx l { frames := 6, cells := 0, slots := 0, locals := 157 } cL_isWish RL 10 (some .boolean) G ad X) : ∀ (n : Nat), ∀ (x1 : Int32) (x2 : Int32) (x3 : Int32) (x4 : Int32) (x5 : Int32) (x6 : Int32) (x7 : Int32) (x8 : Int32) (x9 : Int32) (M : Mem) {L : List (Option Value)}, lsub [some (.ref (ad 0)), some (.int x1), some (.int x2), some (.int x3), some (.int x4), some (.int x5), some (.int x6), some (.int x7), some (.int x8), some (.int x9)] L → KF l { frames := 6, cells := 0, slots := 0, locals := 157 } 10 G ad (EC G ad MM) (QP PostI G ad (EC G ad MM)) X (f_L_isWish_58 n x1 x2 x3 x4 x5 x6 x7 x8 x9 M) L 58 [] M := by
  intro n
  induction n with
  | zero =>
    intro x1 x2 x3 x4 x5 x6 x7 x8 x9 M L hL
    exact KF.none'
  | succ n ih =>
    intro x1 x2 x3 x4 x5 x6 x7 x8 x9 M L hL
    rw [f_L_isWish_58]
    refine KF.locals (lsub_le hL) ?_
    refine k_iload hX rfl dL_isWish_58 ?_
    refine k_iload_n hX (i := 3) rfl rfl dL_isWish_60 ?_
    refine k_icmp_ge (tgt := 162) hX dL_isWish_61 (by decide) (fun b1 => ?_) (fun b1 => ?_)
    · exact w_L_isWish_162 hX x1 x2 x3 x4 x5 x6 x7 x8 M ⟨rfl, rfl, rfl, rfl, rfl, rfl, rfl, rfl, rfl, trivial⟩
    refine k_iload hX rfl dL_isWish_64 ?_
    refine k_if_eq (tgt := 162) hX dL_isWish_66 (by decide) (fun b2 => ?_) (fun b2 => ?_)
    · exact w_L_isWish_162 hX x1 x2 x3 x4 x5 x6 x7 x8 M ⟨rfl, rfl, rfl, rfl, rfl, rfl, rfl, rfl, rfl, trivial⟩
    refine k_aload_n hX (i := 0) rfl rfl dL_isWish_69 ?_
    refine k_iload_n hX (i := 1) rfl rfl dL_isWish_70 ?_
    refine k_iload hX rfl dL_isWish_71 ?_
    refine k_callSI (vs := [.ref (ad 0), .int x1, .int x9]) hX (fun _ h9 => m_L_isPart hX.2.2.2.2.2.2.1  h9) ml_L_40 ⟨Nat.le_of_ble_eq_true rfl, Nat.le_of_ble_eq_true rfl⟩ rfl rfl (Nat.le_of_ble_eq_true rfl) dL_isWish_73 (fun q3 => ?_)
    refine k_istore (L' := [some (.ref (ad 0)), some (.int x1), some (.int x2), some (.int x3), some (.int x4), some (.int x5), some (.int x6), some (.int x7), some (.int q3.1), some (.int x9)]) hX (by decide) rfl dL_isWish_76 ?_
    refine k_iload hX rfl dL_isWish_78 ?_
    refine k_aload_n hX (i := 0) rfl rfl dL_isWish_80 ?_
    refine k_iload_n hX (i := 1) rfl rfl dL_isWish_81 ?_
    refine k_iload hX rfl dL_isWish_82 ?_
    refine k_iconst (v := (nI 0)) hX rfl dL_isWish_84 ?_
    refine k_callVI (vs := [.int x1, .int x9, .int (nI 0)]) hX (fun _ h9 => m_X6_letter hX.2.2.2.2.2.2.1  h9) io_0 rfl ml_L_33 ⟨Nat.le_of_ble_eq_true rfl, Nat.le_of_ble_eq_true rfl⟩ rfl rfl (Nat.le_of_ble_eq_true rfl) dL_isWish_85 (fun q4 => ?_)
    refine k_bipush (v := (nI 48)) hX rfl dL_isWish_88 ?_
    refine k_icmp_ne (tgt := 100) hX dL_isWish_90 (by decide) (fun b5 => ?_) (fun b5 => ?_)
    · refine k_iconst (v := (nI 0)) hX rfl dL_isWish_100 ?_
      exact w_L_isWish_101 hX ih x1 x2 x3 x5 x6 x7 q3.1 x9 (nI 0) x4 q4.2 ⟨rfl, rfl, rfl, rfl, rfl, rfl, rfl, rfl, rfl, trivial⟩
    refine k_iconst (v := (nI 1)) hX rfl dL_isWish_93 ?_
    refine k_iload hX rfl dL_isWish_94 ?_
    refine k_ishl hX dL_isWish_96 ?_
    refine k_goto (tgt := 101) hX dL_isWish_97 (by decide) ?_
    exact w_L_isWish_101 hX ih x1 x2 x3 x5 x6 x7 q3.1 x9 ((nI 1) <<< (x9 &&& nI 31)) x4 q4.2 ⟨rfl, rfl, rfl, rfl, rfl, rfl, rfl, rfl, rfl, trivial⟩
set_option maxHeartbeats 4000000 in
set_option maxRecDepth 100000 in
theorem w_L_isWish_53 {l : Launch} {G : GL} {ad : Nat → Nat} {MM : Mem} {X : CT} (hX : Cx l { frames := 6, cells := 0, slots := 0, locals := 157 } cL_isWish RL 10 (some .boolean) G ad X) : ∀ (x1 : Int32) (x2 : Int32) (x3 : Int32) (x4 : Int32) (x5 : Int32) (x6 : Int32) (x7 : Int32) (s0 : Int32) (M : Mem) {L : List (Option Value)}, lsub [some (.ref (ad 0)), some (.int x1), some (.int x2), some (.int x3), some (.int x4), some (.int x5), some (.int x6), some (.int x7), none, none] L → KF l { frames := 6, cells := 0, slots := 0, locals := 157 } 10 G ad (EC G ad MM) (QP PostI G ad (EC G ad MM)) X (f_L_isWish_53 x1 x2 x3 x4 x5 x6 x7 s0 M) L 53 [.int s0] M := by
  intro x1 x2 x3 x4 x5 x6 x7 s0 M L hL
  unfold f_L_isWish_53
  refine KF.locals (lsub_le hL) ?_
  refine k_istore (L' := [some (.ref (ad 0)), some (.int x1), some (.int x2), some (.int x3), some (.int x4), some (.int x5), some (.int x6), some (.int x7), some (.int s0), none]) hX (by decide) rfl dL_isWish_53 ?_
  refine k_iconst (v := (nI 0)) hX rfl dL_isWish_55 ?_
  refine k_istore (L' := [some (.ref (ad 0)), some (.int x1), some (.int x2), some (.int x3), some (.int x4), some (.int x5), some (.int x6), some (.int x7), some (.int s0), some (.int (nI 0))]) hX (by decide) rfl dL_isWish_56 ?_
  exact w_L_isWish_58 hX fuelN x1 x2 x3 x4 x5 x6 x7 s0 (nI 0) M ⟨rfl, rfl, rfl, rfl, rfl, rfl, rfl, rfl, rfl, rfl, trivial⟩
set_option maxHeartbeats 4000000 in
set_option maxRecDepth 100000 in
theorem w_L_isWish_52 {l : Launch} {G : GL} {ad : Nat → Nat} {MM : Mem} {X : CT} (hX : Cx l { frames := 6, cells := 0, slots := 0, locals := 157 } cL_isWish RL 10 (some .boolean) G ad X) : ∀ (x1 : Int32) (x2 : Int32) (x3 : Int32) (x4 : Int32) (x5 : Int32) (x6 : Int32) (x7 : Int32) (M : Mem) {L : List (Option Value)}, lsub [some (.ref (ad 0)), some (.int x1), some (.int x2), some (.int x3), some (.int x4), some (.int x5), some (.int x6), some (.int x7), none, none] L → KF l { frames := 6, cells := 0, slots := 0, locals := 157 } 10 G ad (EC G ad MM) (QP PostI G ad (EC G ad MM)) X (f_L_isWish_52 x1 x2 x3 x4 x5 x6 x7 M) L 52 [] M := by
  intro x1 x2 x3 x4 x5 x6 x7 M L hL
  unfold f_L_isWish_52
  refine KF.locals (lsub_le hL) ?_
  refine k_iconst (v := (nI 0)) hX rfl dL_isWish_52 ?_
  exact w_L_isWish_53 hX x1 x2 x3 x4 x5 x6 x7 (nI 0) M ⟨rfl, rfl, rfl, rfl, rfl, rfl, rfl, rfl, trivial⟩
set_option maxHeartbeats 4000000 in
set_option maxRecDepth 100000 in
theorem w_L_isWish {l : Launch} {G : GL} {ad : Nat → Nat} {MM : Mem} {X : CT} (hX : Cx l { frames := 6, cells := 0, slots := 0, locals := 157 } cL_isWish RL 10 (some .boolean) G ad X) {p2 : Int32} {M : Mem} : KF l { frames := 6, cells := 0, slots := 0, locals := 157 } 10 G ad (EC G ad MM) (QP PostI G ad (EC G ad MM)) X (f_L_isWish p2 M) [some (.ref (ad 0)), some (.int p2), none, none, none, none, none, none, none, none] 0 [] M := by
  unfold f_L_isWish
  refine k_aload_n hX (i := 0) rfl rfl dL_isWish_0 ?_
  refine k_iload_n hX (i := 1) rfl rfl dL_isWish_1 ?_
  refine k_iconst (v := (nI 0)) hX rfl dL_isWish_2 ?_
  refine k_callVI (vs := [.int p2, .int (nI 0)]) hX (fun _ h9 => m_X6_wish hX.2.2.2.2.2.2.1  h9) io_0 rfl ml_L_36 ⟨Nat.le_of_ble_eq_true rfl, Nat.le_of_ble_eq_true rfl⟩ rfl rfl (Nat.le_of_ble_eq_true rfl) dL_isWish_3 (fun q1 => ?_)
  refine k_istore_n (L' := [some (.ref (ad 0)), some (.int p2), some (.int q1.1), none, none, none, none, none, none, none]) hX (i := 2) rfl (by decide) rfl dL_isWish_6 ?_
  refine k_aload_n hX (i := 0) rfl rfl dL_isWish_7 ?_
  refine k_iload_n hX (i := 1) rfl rfl dL_isWish_8 ?_
  refine k_iconst (v := (nI 1)) hX rfl dL_isWish_9 ?_
  refine k_callVI (vs := [.int p2, .int (nI 1)]) hX (fun _ h9 => m_X6_wish hX.2.2.2.2.2.2.1  h9) io_0 rfl ml_L_36 ⟨Nat.le_of_ble_eq_true rfl, Nat.le_of_ble_eq_true rfl⟩ rfl rfl (Nat.le_of_ble_eq_true rfl) dL_isWish_10 (fun q2 => ?_)
  refine k_istore_n (L' := [some (.ref (ad 0)), some (.int p2), some (.int q1.1), some (.int q2.1), none, none, none, none, none, none]) hX (i := 3) rfl (by decide) rfl dL_isWish_13 ?_
  refine k_iconst (v := (nI 0)) hX rfl dL_isWish_14 ?_
  refine k_istore (L' := [some (.ref (ad 0)), some (.int p2), some (.int q1.1), some (.int q2.1), some (.int (nI 0)), none, none, none, none, none]) hX (by decide) rfl dL_isWish_15 ?_
  refine k_iconst (v := (nI 0)) hX rfl dL_isWish_17 ?_
  refine k_istore (L' := [some (.ref (ad 0)), some (.int p2), some (.int q1.1), some (.int q2.1), some (.int (nI 0)), some (.int (nI 0)), none, none, none, none]) hX (by decide) rfl dL_isWish_18 ?_
  refine k_iconst (v := (nI 0)) hX rfl dL_isWish_20 ?_
  refine k_istore (L' := [some (.ref (ad 0)), some (.int p2), some (.int q1.1), some (.int q2.1), some (.int (nI 0)), some (.int (nI 0)), some (.int (nI 0)), none, none, none]) hX (by decide) rfl dL_isWish_21 ?_
  refine k_iconst (v := (nI 0)) hX rfl dL_isWish_23 ?_
  refine k_istore (L' := [some (.ref (ad 0)), some (.int p2), some (.int q1.1), some (.int q2.1), some (.int (nI 0)), some (.int (nI 0)), some (.int (nI 0)), some (.int (nI 0)), none, none]) hX (by decide) rfl dL_isWish_24 ?_
  refine k_iload_n hX (i := 3) rfl rfl dL_isWish_26 ?_
  refine k_iconst (v := (nI 1)) hX rfl dL_isWish_27 ?_
  refine k_icmp_lt (tgt := 52) hX dL_isWish_28 (by decide) (fun b3 => ?_) (fun b3 => ?_)
  · exact w_L_isWish_52 hX p2 q1.1 q2.1 (nI 0) (nI 0) (nI 0) (nI 0) q2.2 ⟨rfl, rfl, rfl, rfl, rfl, rfl, rfl, rfl, trivial⟩
  refine k_iload_n hX (i := 3) rfl rfl dL_isWish_31 ?_
  refine k_bipush (v := (nI 8)) hX rfl dL_isWish_32 ?_
  refine k_icmp_gt (tgt := 52) hX dL_isWish_34 (by decide) (fun b4 => ?_) (fun b4 => ?_)
  · exact w_L_isWish_52 hX p2 q1.1 q2.1 (nI 0) (nI 0) (nI 0) (nI 0) q2.2 ⟨rfl, rfl, rfl, rfl, rfl, rfl, rfl, rfl, trivial⟩
  refine k_aload_n hX (i := 0) rfl rfl dL_isWish_37 ?_
  refine k_iload_n hX (i := 1) rfl rfl dL_isWish_38 ?_
  refine k_iload_n hX (i := 3) rfl rfl dL_isWish_39 ?_
  refine k_iconst (v := (nI 0)) hX rfl dL_isWish_40 ?_
  refine k_callVI (vs := [.int p2, .int q2.1, .int (nI 0)]) hX (fun _ h9 => m_X6_part hX.2.2.2.2.2.2.1  h9) io_0 rfl ml_L_29 ⟨Nat.le_of_ble_eq_true rfl, Nat.le_of_ble_eq_true rfl⟩ rfl rfl (Nat.le_of_ble_eq_true rfl) dL_isWish_41 (fun q5 => ?_)
  refine k_iconst (v := (-1)) hX rfl dL_isWish_44 ?_
  refine k_icmp_ne (tgt := 52) hX dL_isWish_45 (by decide) (fun b6 => ?_) (fun b6 => ?_)
  · exact w_L_isWish_52 hX p2 q1.1 q2.1 (nI 0) (nI 0) (nI 0) (nI 0) q5.2 ⟨rfl, rfl, rfl, rfl, rfl, rfl, rfl, rfl, trivial⟩
  refine k_iconst (v := (nI 1)) hX rfl dL_isWish_48 ?_
  refine k_goto (tgt := 53) hX dL_isWish_49 (by decide) ?_
  exact w_L_isWish_53 hX p2 q1.1 q2.1 (nI 0) (nI 0) (nI 0) (nI 0) (nI 1) q5.2 ⟨rfl, rfl, rfl, rfl, rfl, rfl, rfl, rfl, trivial⟩
set_option maxRecDepth 100000 in
theorem m_L_isWish {l : Launch} {G : GL} {ad : Nat → Nat} {MM : Mem} (hAd : AdOK G ad) {p2 : Int32} {M : Mem} {r : Rv} (h : f_L_isWish p2 M = some r) : Ct PostI l G ad (EC G ad MM) yL_isWish cL_isWish 10 (some .boolean) 6 157 [.ref (ad 0), .int p2] M r := ct_of' hAd (by decide +kernel) (List.forall_mem_cons.mpr ⟨rfl, (List.forall_mem_cons.mpr ⟨rfl, (fun _ h => absurd h List.not_mem_nil)⟩)⟩) (Nat.le_of_ble_eq_true rfl) (L := [some (.ref (ad 0)), some (.int p2), none, none, none, none, none, none, none, none]) rfl (fun _ hX => w_L_isWish hX) h
