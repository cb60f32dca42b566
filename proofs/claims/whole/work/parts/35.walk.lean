set_option maxHeartbeats 4000000 in
set_option maxRecDepth 100000 in
theorem w_X7_begins_38 {l : Launch} {G : GL} {ad : Nat → Nat} {MM : Mem} {X : CT} (hX : Cx l { frames := 0, cells := 0, slots := 0, locals := 0 } cX7_begins RX7 2 (some .int) G ad X) : ∀ (s0 : Int32) (M : Mem) {L : List (Option Value)}, lsub [none, none] L → KF l { frames := 0, cells := 0, slots := 0, locals := 0 } 2 G ad (EM G ad MM) (QP PostI G ad (EM G ad MM)) X (f_X7_begins_38 s0 M) L 38 [.int s0] M := by
  intro s0 M L hL
  unfold f_X7_begins_38
  refine KF.locals (lsub_le hL) ?_
  exact k_iret hX dX7_begins_38
set_option maxHeartbeats 4000000 in
set_option maxRecDepth 100000 in
theorem w_X7_begins_88 {l : Launch} {G : GL} {ad : Nat → Nat} {MM : Mem} {X : CT} (hX : Cx l { frames := 0, cells := 0, slots := 0, locals := 0 } cX7_begins RX7 2 (some .int) G ad X) : ∀ (s0 : Int32) (M : Mem) {L : List (Option Value)}, lsub [none, none] L → KF l { frames := 0, cells := 0, slots := 0, locals := 0 } 2 G ad (EM G ad MM) (QP PostI G ad (EM G ad MM)) X (f_X7_begins_88 s0 M) L 88 [.int s0] M := by
  intro s0 M L hL
  unfold f_X7_begins_88
  refine KF.locals (lsub_le hL) ?_
  exact k_iret hX dX7_begins_88
set_option maxHeartbeats 4000000 in
set_option maxRecDepth 100000 in
theorem w_X7_begins {l : Launch} {G : GL} {ad : Nat → Nat} {MM : Mem} {X : CT} (hX : Cx l { frames := 0, cells := 0, slots := 0, locals := 0 } cX7_begins RX7 2 (some .int) G ad X) {p1 : Int32} {M : Mem} : KF l { frames := 0, cells := 0, slots := 0, locals := 0 } 2 G ad (EM G ad MM) (QP PostI G ad (EM G ad MM)) X (f_X7_begins p1 M) [some (.ref (ad 218)), some (.int p1)] 0 [] M := by
  unfold f_X7_begins
  refine k_iload_n hX (i := 1) rfl rfl dX7_begins_0 ?_
  refine k_bipush (v := (nI 16)) hX rfl dX7_begins_1 ?_
  refine k_icmp_lt (tgt := 39) hX dX7_begins_3 (by decide) (fun b1 => ?_) (fun b1 => ?_)
  · refine k_iload_n hX (i := 1) rfl rfl dX7_begins_39 ?_
    refine k_iconst (v := (nI 2)) hX rfl dX7_begins_40 ?_
    refine k_icmp_ge (tgt := 51) hX dX7_begins_41 (by decide) (fun b2 => ?_) (fun b2 => ?_)
    · refine k_iload_n hX (i := 1) rfl rfl dX7_begins_51 ?_
      refine k_iconst (v := (nI 2)) hX rfl dX7_begins_52 ?_
      refine k_icmp_ne (tgt := 61) hX dX7_begins_53 (by decide) (fun b3 => ?_) (fun b3 => ?_)
      · refine k_iload_n hX (i := 1) rfl rfl dX7_begins_61 ?_
        refine k_iconst (v := (nI 3)) hX rfl dX7_begins_62 ?_
        refine k_icmp_ne (tgt := 71) hX dX7_begins_63 (by decide) (fun b4 => ?_) (fun b4 => ?_)
        · refine k_iload_n hX (i := 1) rfl rfl dX7_begins_71 ?_
          refine k_bipush (v := (nI 10)) hX rfl dX7_begins_72 ?_
          refine k_icmp_ge (tgt := 86) hX dX7_begins_74 (by decide) (fun b5 => ?_) (fun b5 => ?_)
          · refine k_bipush (v := (nI 45)) hX rfl dX7_begins_86 ?_
            exact w_X7_begins_88 hX (nI 45) M trivial
          refine k_bipush (v := (nI 97)) hX rfl dX7_begins_77 ?_
          refine k_iload_n hX (i := 1) rfl rfl dX7_begins_79 ?_
          refine k_iadd hX dX7_begins_80 ?_
          refine k_iconst (v := (nI 4)) hX rfl dX7_begins_81 ?_
          refine k_isub hX dX7_begins_82 ?_
          refine k_goto (tgt := 88) hX dX7_begins_83 (by decide) ?_
          exact w_X7_begins_88 hX (((nI 97) + p1) - (nI 4)) M trivial
        refine k_bipush (v := (nI 46)) hX rfl dX7_begins_66 ?_
        refine k_goto (tgt := 88) hX dX7_begins_68 (by decide) ?_
        exact w_X7_begins_88 hX (nI 46) M trivial
      refine k_bipush (v := (nI 62)) hX rfl dX7_begins_56 ?_
      refine k_goto (tgt := 88) hX dX7_begins_58 (by decide) ?_
      exact w_X7_begins_88 hX (nI 62) M trivial
    refine k_bipush (v := (nI 48)) hX rfl dX7_begins_44 ?_
    refine k_iload_n hX (i := 1) rfl rfl dX7_begins_46 ?_
    refine k_iadd hX dX7_begins_47 ?_
    refine k_goto (tgt := 88) hX dX7_begins_48 (by decide) ?_
    exact w_X7_begins_88 hX ((nI 48) + p1) M trivial
  refine k_aload_n hX (i := 0) rfl rfl dX7_begins_6 ?_
  refine k_get hX io_218 fl_X7_20 rfl dX7_begins_7 ?_
  refine k_iload_n hX (i := 1) rfl rfl dX7_begins_10 ?_
  refine k_ald hX ia_222 dX7_begins_11 (fun v6 => ?_)
  refine k_iconst (v := (nI 1)) hX rfl dX7_begins_12 ?_
  refine k_icmp_ne (tgt := 21) hX dX7_begins_13 (by decide) (fun b7 => ?_) (fun b7 => ?_)
  · refine k_aload_n hX (i := 0) rfl rfl dX7_begins_21 ?_
    refine k_get hX io_218 fl_X7_20 rfl dX7_begins_22 ?_
    refine k_iload_n hX (i := 1) rfl rfl dX7_begins_25 ?_
    refine k_ald hX ia_222 dX7_begins_26 (fun v8 => ?_)
    refine k_iconst (v := (nI 2)) hX rfl dX7_begins_27 ?_
    refine k_icmp_ne (tgt := 36) hX dX7_begins_28 (by decide) (fun b9 => ?_) (fun b9 => ?_)
    · refine k_bipush (v := (nI 40)) hX rfl dX7_begins_36 ?_
      exact w_X7_begins_38 hX (nI 40) M trivial
    refine k_bipush (v := (nI 78)) hX rfl dX7_begins_31 ?_
    refine k_goto (tgt := 38) hX dX7_begins_33 (by decide) ?_
    exact w_X7_begins_38 hX (nI 78) M trivial
  refine k_bipush (v := (nI 88)) hX rfl dX7_begins_16 ?_
  refine k_goto (tgt := 38) hX dX7_begins_18 (by decide) ?_
  exact w_X7_begins_38 hX (nI 88) M trivial
set_option maxRecDepth 100000 in
theorem m_X7_begins {l : Launch} {G : GL} {ad : Nat → Nat} {MM : Mem} (hAd : AdOK G ad) {p1 : Int32} {M : Mem} {r : Rv} (h : f_X7_begins p1 M = some r) : Ct PostI l G ad (EM G ad MM) yX7_begins cX7_begins 2 (some .int) 0 0 [.ref (ad 218), .int p1] M r := ct_of' hAd (by decide +kernel) (List.forall_mem_cons.mpr ⟨rfl, (List.forall_mem_cons.mpr ⟨rfl, (fun _ h => absurd h List.not_mem_nil)⟩)⟩) (Nat.le_of_ble_eq_true rfl) (L := [some (.ref (ad 218)), some (.int p1)]) rfl (fun _ hX => w_X7_begins hX) h
set_option maxHeartbeats 4000000 in
set_option maxRecDepth 100000 in
theorem w_X7_behind_61 {l : Launch} {G : GL} {ad : Nat → Nat} {MM : Mem} {X : CT} (hX : Cx l { frames := 1, cells := 0, slots := 0, locals := 21 } cX7_behind RX7 3 (some .int) G ad X) : ∀ (s0 : Int32) (M : Mem) {L : List (Option Value)}, lsub [none, none, none] L → KF l { frames := 1, cells := 0, slots := 0, locals := 21 } 3 G ad (EM G ad MM) (QP PostI G ad (EM G ad MM)) X (f_X7_behind_61 s0 M) L 61 [.int s0] M := by
  intro s0 M L hL
  unfold f_X7_behind_61
  refine KF.locals (lsub_le hL) ?_
  exact k_iret hX dX7_behind_61
set_option maxHeartbeats 4000000 in
set_option maxRecDepth 100000 in
theorem w_X7_behind {l : Launch} {G : GL} {ad : Nat → Nat} {MM : Mem} {X : CT} (hX : Cx l { frames := 1, cells := 0, slots := 0, locals := 21 } cX7_behind RX7 3 (some .int) G ad X) {p1 : Int32} {p2 : Int32} {M : Mem} : KF l { frames := 1, cells := 0, slots := 0, locals := 21 } 3 G ad (EM G ad MM) (QP PostI G ad (EM G ad MM)) X (f_X7_behind p1 p2 M) [some (.ref (ad 218)), some (.int p1), some (.int p2)] 0 [] M := by
  unfold f_X7_behind
  refine k_iload_n hX (i := 2) rfl rfl dX7_behind_0 ?_
  refine k_aload_n hX (i := 0) rfl rfl dX7_behind_1 ?_
  refine k_iload_n hX (i := 1) rfl rfl dX7_behind_2 ?_
  refine k_callVI (vs := [.int p1]) hX (fun _ h9 => m_X7_childMany hX.2.2.2.2.2.2.1  h9) io_218 rfl ml_X7_91 ⟨Nat.le_of_ble_eq_true rfl, Nat.le_of_ble_eq_true rfl⟩ rfl rfl (Nat.le_of_ble_eq_true rfl) dX7_behind_3 (fun q1 => ?_)
  refine k_iconst (v := (nI 1)) hX rfl dX7_behind_6 ?_
  refine k_isub hX dX7_behind_7 ?_
  refine k_icmp_ne (tgt := 14) hX dX7_behind_8 (by decide) (fun b2 => ?_) (fun b2 => ?_)
  · refine k_aload_n hX (i := 0) rfl rfl dX7_behind_14 ?_
    refine k_get hX io_218 fl_X7_20 rfl dX7_behind_15 ?_
    refine k_iload_n hX (i := 1) rfl rfl dX7_behind_18 ?_
    refine k_ald hX ia_222 dX7_behind_19 (fun v3 => ?_)
    refine k_iconst (v := (nI 3)) hX rfl dX7_behind_20 ?_
    refine k_icmp_ne (tgt := 29) hX dX7_behind_21 (by decide) (fun b4 => ?_) (fun b4 => ?_)
    · refine k_aload_n hX (i := 0) rfl rfl dX7_behind_29 ?_
      refine k_get hX io_218 fl_X7_20 rfl dX7_behind_30 ?_
      refine k_iload_n hX (i := 1) rfl rfl dX7_behind_33 ?_
      refine k_ald hX ia_222 dX7_behind_34 (fun v5 => ?_)
      refine k_iconst (v := (nI 4)) hX rfl dX7_behind_35 ?_
      refine k_icmp_ne (tgt := 44) hX dX7_behind_36 (by decide) (fun b6 => ?_) (fun b6 => ?_)
      · refine k_aload_n hX (i := 0) rfl rfl dX7_behind_44 ?_
        refine k_get hX io_218 fl_X7_20 rfl dX7_behind_45 ?_
        refine k_iload_n hX (i := 1) rfl rfl dX7_behind_48 ?_
        refine k_ald hX ia_222 dX7_behind_49 (fun v7 => ?_)
        refine k_iconst (v := (nI 5)) hX rfl dX7_behind_50 ?_
        refine k_icmp_ne (tgt := 59) hX dX7_behind_51 (by decide) (fun b8 => ?_) (fun b8 => ?_)
        · refine k_bipush (v := (nI 124)) hX rfl dX7_behind_59 ?_
          exact w_X7_behind_61 hX (nI 124) q1.2 trivial
        refine k_bipush (v := (nI 38)) hX rfl dX7_behind_54 ?_
        refine k_goto (tgt := 61) hX dX7_behind_56 (by decide) ?_
        exact w_X7_behind_61 hX (nI 38) q1.2 trivial
      refine k_bipush (v := (nI 82)) hX rfl dX7_behind_39 ?_
      refine k_goto (tgt := 61) hX dX7_behind_41 (by decide) ?_
      exact w_X7_behind_61 hX (nI 82) q1.2 trivial
    refine k_bipush (v := (nI 85)) hX rfl dX7_behind_24 ?_
    refine k_goto (tgt := 61) hX dX7_behind_26 (by decide) ?_
    exact w_X7_behind_61 hX (nI 85) q1.2 trivial
  refine k_bipush (v := (nI 41)) hX rfl dX7_behind_11 ?_
  exact k_iret hX dX7_behind_13
set_option maxRecDepth 100000 in
theorem m_X7_behind {l : Launch} {G : GL} {ad : Nat → Nat} {MM : Mem} (hAd : AdOK G ad) {p1 : Int32} {p2 : Int32} {M : Mem} {r : Rv} (h : f_X7_behind p1 p2 M = some r) : Ct PostI l G ad (EM G ad MM) yX7_behind cX7_behind 3 (some .int) 1 21 [.ref (ad 218), .int p1, .int p2] M r := ct_of' hAd (by decide +kernel) (List.forall_mem_cons.mpr ⟨rfl, (List.forall_mem_cons.mpr ⟨rfl, (List.forall_mem_cons.mpr ⟨rfl, (fun _ h => absurd h List.not_mem_nil)⟩)⟩)⟩) (Nat.le_of_ble_eq_true rfl) (L := [some (.ref (ad 218)), some (.int p1), some (.int p2)]) rfl (fun _ hX => w_X7_behind hX) h
set_option maxHeartbeats 4000000 in
set_option maxRecDepth 100000 in
theorem w_X7_isAhead_121 {l : Launch} {G : GL} {ad : Nat → Nat} {MM : Mem} {X : CT} (hX : Cx l { frames := 2, cells := 0, slots := 0, locals := 43 } cX7_isAhead RX7 7 (some .boolean) G ad X) : ∀ (s0 : Int32) (M : Mem) {L : List (Option Value)}, lsub [none, none, none, none, none, none, none] L → KF l { frames := 2, cells := 0, slots := 0, locals := 43 } 7 G ad (EM G ad MM) (QP PostI G ad (EM G ad MM)) X (f_X7_isAhead_121 s0 M) L 121 [.int s0] M := by
  intro s0 M L hL
  unfold f_X7_isAhead_121
  refine KF.locals (lsub_le hL) ?_
  exact k_zret hX dX7_isAhead_121
set_option maxHeartbeats 4000000 in
set_option maxRecDepth 100000 in
theorem w_X7_isAhead_80 {l : Launch} {G : GL} {ad : Nat → Nat} {MM : Mem} {X : CT} (hX : Cx l { frames := 2, cells := 0, slots := 0, locals := 43 } cX7_isAhead RX7 7 (some .boolean) G ad X) {k5 : Int32 → Int32 → Mem → Option Rv} (hk5 : ∀ (x3 : Int32) (x4 : Int32) (M : Mem) {L : List (Option Value)}, lsub [some (.ref (ad 218)), none, none, some (.int x3), some (.int x4), none, none] L → KF l { frames := 2, cells := 0, slots := 0, locals := 43 } 7 G ad (EM G ad MM) (QP PostI G ad (EM G ad MM)) X (k5 x3 x4 M) L 5 [] M) : ∀ (x3 : Int32) (x4 : Int32) (x5 : Int32) (M : Mem) {L : List (Option Value)}, lsub [some (.ref (ad 218)), none, none, some (.int x3), some (.int x4), some (.int x5), none] L → KF l { frames := 2, cells := 0, slots := 0, locals := 43 } 7 G ad (EM G ad MM) (QP PostI G ad (EM G ad MM)) X (f_X7_isAhead_80 k5 x3 x4 x5 M) L 80 [] M := by
  intro x3 x4 x5 M L hL
  unfold f_X7_isAhead_80
  refine KF.locals (lsub_le hL) ?_
  refine k_aload_n hX (i := 0) rfl rfl dX7_isAhead_80 ?_
  refine k_iload_n hX (i := 3) rfl rfl dX7_isAhead_81 ?_
  refine k_iload hX rfl dX7_isAhead_82 ?_
  refine k_callVI (vs := [.int x3, .int x5]) hX (fun _ h9 => m_X7_child hX.2.2.2.2.2.2.1  h9) io_218 rfl ml_X7_97 ⟨Nat.le_of_ble_eq_true rfl, Nat.le_of_ble_eq_true rfl⟩ rfl rfl (Nat.le_of_ble_eq_true rfl) dX7_isAhead_84 (fun q1 => ?_)
  refine k_aload_n hX (i := 0) rfl rfl dX7_isAhead_87 ?_
  refine k_iload hX rfl dX7_isAhead_88 ?_
  refine k_iload hX rfl dX7_isAhead_90 ?_
  refine k_callVI (vs := [.int x4, .int x5]) hX (fun _ h9 => m_X7_child hX.2.2.2.2.2.2.1  h9) io_218 rfl ml_X7_97 ⟨Nat.le_of_ble_eq_true rfl, Nat.le_of_ble_eq_true rfl⟩ rfl rfl (Nat.le_of_ble_eq_true rfl) dX7_isAhead_92 (fun q2 => ?_)
  refine k_icmp_ne (tgt := 122) hX dX7_isAhead_95 (by decide) (fun b3 => ?_) (fun b3 => ?_)
  · refine k_aload_n hX (i := 0) rfl rfl dX7_isAhead_122 ?_
    refine k_iload_n hX (i := 3) rfl rfl dX7_isAhead_123 ?_
    refine k_iload hX rfl dX7_isAhead_124 ?_
    refine k_callVI (vs := [.int x3, .int x5]) hX (fun _ h9 => m_X7_child hX.2.2.2.2.2.2.1  h9) io_218 rfl ml_X7_97 ⟨Nat.le_of_ble_eq_true rfl, Nat.le_of_ble_eq_true rfl⟩ rfl rfl (Nat.le_of_ble_eq_true rfl) dX7_isAhead_126 (fun q4 => ?_)
    refine k_istore (L' := [some (.ref (ad 218)), none, none, some (.int x3), some (.int x4), some (.int x5), some (.int q4.1)]) hX (by decide) rfl dX7_isAhead_129 ?_
    refine k_aload_n hX (i := 0) rfl rfl dX7_isAhead_131 ?_
    refine k_iload hX rfl dX7_isAhead_132 ?_
    refine k_iload hX rfl dX7_isAhead_134 ?_
    refine k_callVI (vs := [.int x4, .int x5]) hX (fun _ h9 => m_X7_child hX.2.2.2.2.2.2.1  h9) io_218 rfl ml_X7_97 ⟨Nat.le_of_ble_eq_true rfl, Nat.le_of_ble_eq_true rfl⟩ rfl rfl (Nat.le_of_ble_eq_true rfl) dX7_isAhead_136 (fun q5 => ?_)
    refine k_istore (L' := [some (.ref (ad 218)), none, none, some (.int x3), some (.int q5.1), some (.int x5), some (.int q4.1)]) hX (by decide) rfl dX7_isAhead_139 ?_
    refine k_iload hX rfl dX7_isAhead_141 ?_
    refine k_istore_n (L' := [some (.ref (ad 218)), none, none, some (.int q4.1), some (.int q5.1), some (.int x5), some (.int q4.1)]) hX (i := 3) rfl (by decide) rfl dX7_isAhead_143 ?_
    refine k_goto (tgt := 5) hX dX7_isAhead_144 (by decide) ?_
    exact hk5 q4.1 q5.1 q5.2 ⟨rfl, rfl, rfl, trivial⟩
  refine k_aload_n hX (i := 0) rfl rfl dX7_isAhead_98 ?_
  refine k_iload_n hX (i := 3) rfl rfl dX7_isAhead_99 ?_
  refine k_iload hX rfl dX7_isAhead_100 ?_
  refine k_callVI (vs := [.int x3, .int x5]) hX (fun _ h9 => m_X7_behind hX.2.2.2.2.2.2.1  h9) io_218 rfl ml_X7_101 ⟨Nat.le_of_ble_eq_true rfl, Nat.le_of_ble_eq_true rfl⟩ rfl rfl (Nat.le_of_ble_eq_true rfl) dX7_isAhead_102 (fun q6 => ?_)
  refine k_aload_n hX (i := 0) rfl rfl dX7_isAhead_105 ?_
  refine k_iload hX rfl dX7_isAhead_106 ?_
  refine k_iload hX rfl dX7_isAhead_108 ?_
  refine k_callVI (vs := [.int x4, .int x5]) hX (fun _ h9 => m_X7_behind hX.2.2.2.2.2.2.1  h9) io_218 rfl ml_X7_101 ⟨Nat.le_of_ble_eq_true rfl, Nat.le_of_ble_eq_true rfl⟩ rfl rfl (Nat.le_of_ble_eq_true rfl) dX7_isAhead_110 (fun q7 => ?_)
  refine k_icmp_ge (tgt := 120) hX dX7_isAhead_113 (by decide) (fun b8 => ?_) (fun b8 => ?_)
  · refine k_iconst (v := (nI 0)) hX rfl dX7_isAhead_120 ?_
    exact w_X7_isAhead_121 hX (nI 0) q7.2 trivial
  refine k_iconst (v := (nI 1)) hX rfl dX7_isAhead_116 ?_
  refine k_goto (tgt := 121) hX dX7_isAhead_117 (by decide) ?_
  exact w_X7_isAhead_121 hX (nI 1) q7.2 trivial
set_option maxHeartbeats 4000000 in
set_option maxRecDepth 100000 in
theorem w_X7_isAhead_28 {l : Launch} {G : GL} {ad : Nat → Nat} {MM : Mem} {X : CT} (hX : Cx l { frames := 2, cells := 0, slots := 0, locals := 43 } cX7_isAhead RX7 7 (some .boolean) G ad X) {k5 : Int32 → Int32 → Mem → Option Rv} (hk5 : ∀ (x3 : Int32) (x4 : Int32) (M : Mem) {L : List (Option Value)}, lsub [some (.ref (ad 218)), none, none, some (.int x3), some (.int x4), none, none] L → KF l { frames := 2, cells := 0, slots := 0, locals := 43 } 7 G ad (EM G ad MM) (QP PostI G ad (EM G ad MM)) X (k5 x3 x4 M) L 5 [] M) : ∀ (n : Nat), ∀ (x3 : Int32) (x4 : Int32) (x5 : Int32) (M : Mem) {L : List (Option Value)}, lsub [some (.ref (ad 218)), none, none, some (.int x3), some (.int x4), some (.int x5), none] L → KF l { frames := 2, cells := 0, slots := 0, locals := 43 } 7 G ad (EM G ad MM) (QP PostI G ad (EM G ad MM)) X (f_X7_isAhead_28 k5 n x3 x4 x5 M) L 28 [] M := by
  intro n
  induction n with
  | zero =>
    intro x3 x4 x5 M L hL
    exact KF.none'
  | succ n ih =>
    intro x3 x4 x5 M L hL
    rw [f_X7_isAhead_28]
    refine KF.locals (lsub_le hL) ?_
    refine k_aload_n hX (i := 0) rfl rfl dX7_isAhead_28 ?_
    refine k_iload_n hX (i := 3) rfl rfl dX7_isAhead_29 ?_
    refine k_iload hX rfl dX7_isAhead_30 ?_
    refine k_callVI (vs := [.int x3, .int x5]) hX (fun _ h9 => m_X7_child hX.2.2.2.2.2.2.1  h9) io_218 rfl ml_X7_97 ⟨Nat.le_of_ble_eq_true rfl, Nat.le_of_ble_eq_true rfl⟩ rfl rfl (Nat.le_of_ble_eq_true rfl) dX7_isAhead_32 (fun q1 => ?_)
    refine k_aload_n hX (i := 0) rfl rfl dX7_isAhead_35 ?_
    refine k_iload hX rfl dX7_isAhead_36 ?_
    refine k_iload hX rfl dX7_isAhead_38 ?_
    refine k_callVI (vs := [.int x4, .int x5]) hX (fun _ h9 => m_X7_child hX.2.2.2.2.2.2.1  h9) io_218 rfl ml_X7_97 ⟨Nat.le_of_ble_eq_true rfl, Nat.le_of_ble_eq_true rfl⟩ rfl rfl (Nat.le_of_ble_eq_true rfl) dX7_isAhead_40 (fun q2 => ?_)
    refine k_icmp_ne (tgt := 80) hX dX7_isAhead_43 (by decide) (fun b3 => ?_) (fun b3 => ?_)
    · exact w_X7_isAhead_80 hX hk5 x3 x4 x5 q2.2 ⟨rfl, rfl, rfl, rfl, trivial⟩
    refine k_aload_n hX (i := 0) rfl rfl dX7_isAhead_46 ?_
    refine k_iload_n hX (i := 3) rfl rfl dX7_isAhead_47 ?_
    refine k_callVI (vs := [.int x3]) hX (fun _ h9 => m_X7_begins hX.2.2.2.2.2.2.1  h9) io_218 rfl ml_X7_94 ⟨Nat.le_of_ble_eq_true rfl, Nat.le_of_ble_eq_true rfl⟩ rfl rfl (Nat.le_of_ble_eq_true rfl) dX7_isAhead_48 (fun q4 => ?_)
    refine k_bipush (v := (nI 40)) hX rfl dX7_isAhead_51 ?_
    refine k_icmp_ne (tgt := 80) hX dX7_isAhead_53 (by decide) (fun b5 => ?_) (fun b5 => ?_)
    · exact w_X7_isAhead_80 hX hk5 x3 x4 x5 q4.2 ⟨rfl, rfl, rfl, rfl, trivial⟩
    refine k_aload_n hX (i := 0) rfl rfl dX7_isAhead_56 ?_
    refine k_iload_n hX (i := 3) rfl rfl dX7_isAhead_57 ?_
    refine k_iload hX rfl dX7_isAhead_58 ?_
    refine k_callVI (vs := [.int x3, .int x5]) hX (fun _ h9 => m_X7_behind hX.2.2.2.2.2.2.1  h9) io_218 rfl ml_X7_101 ⟨Nat.le_of_ble_eq_true rfl, Nat.le_of_ble_eq_true rfl⟩ rfl rfl (Nat.le_of_ble_eq_true rfl) dX7_isAhead_60 (fun q6 => ?_)
    refine k_aload_n hX (i := 0) rfl rfl dX7_isAhead_63 ?_
    refine k_iload hX rfl dX7_isAhead_64 ?_
    refine k_iload hX rfl dX7_isAhead_66 ?_
    refine k_callVI (vs := [.int x4, .int x5]) hX (fun _ h9 => m_X7_behind hX.2.2.2.2.2.2.1  h9) io_218 rfl ml_X7_101 ⟨Nat.le_of_ble_eq_true rfl, Nat.le_of_ble_eq_true rfl⟩ rfl rfl (Nat.le_of_ble_eq_true rfl) dX7_isAhead_68 (fun q7 => ?_)
    refine k_icmp_ne (tgt := 80) hX dX7_isAhead_71 (by decide) (fun b8 => ?_) (fun b8 => ?_)
    · exact w_X7_isAhead_80 hX hk5 x3 x4 x5 q7.2 ⟨rfl, rfl, rfl, rfl, trivial⟩
    refine k_iinc (v := x5 + nI 1) (L' := [some (.ref (ad 218)), none, none, some (.int x3), some (.int x4), some (.int (x5 + nI 1)), none]) hX (i := 5) rfl rfl (by decide) rfl dX7_isAhead_74 ?_
    refine k_goto (tgt := 28) hX dX7_isAhead_77 (by decide) ?_
    exact ih x3 x4 (x5 + nI 1) q7.2 ⟨rfl, rfl, rfl, rfl, trivial⟩
set_option maxHeartbeats 4000000 in
set_option maxRecDepth 100000 in
theorem w_X7_isAhead_194 {l : Launch} {G : GL} {ad : Nat → Nat} {MM : Mem} {X : CT} (hX : Cx l { frames := 2, cells := 0, slots := 0, locals := 43 } cX7_isAhead RX7 7 (some .boolean) G ad X) : ∀ (s0 : Int32) (M : Mem) {L : List (Option Value)}, lsub [none, none, none, none, none, none, none] L → KF l { frames := 2, cells := 0, slots := 0, locals := 43 } 7 G ad (EM G ad MM) (QP PostI G ad (EM G ad MM)) X (f_X7_isAhead_194 s0 M) L 194 [.int s0] M := by
  intro s0 M L hL
  unfold f_X7_isAhead_194
  refine KF.locals (lsub_le hL) ?_
  exact k_zret hX dX7_isAhead_194
set_option maxHeartbeats 4000000 in
set_option maxRecDepth 100000 in
theorem w_X7_isAhead_147 {l : Launch} {G : GL} {ad : Nat → Nat} {MM : Mem} {X : CT} (hX : Cx l { frames := 2, cells := 0, slots := 0, locals := 43 } cX7_isAhead RX7 7 (some .boolean) G ad X) : ∀ (x3 : Int32) (x4 : Int32) (M : Mem) {L : List (Option Value)}, lsub [some (.ref (ad 218)), none, none, some (.int x3), some (.int x4), none, none] L → KF l { frames := 2, cells := 0, slots := 0, locals := 43 } 7 G ad (EM G ad MM) (QP PostI G ad (EM G ad MM)) X (f_X7_isAhead_147 x3 x4 M) L 147 [] M := by
  intro x3 x4 M L hL
  unfold f_X7_isAhead_147
  refine KF.locals (lsub_le hL) ?_
  refine k_aload_n hX (i := 0) rfl rfl dX7_isAhead_147 ?_
  refine k_iload_n hX (i := 3) rfl rfl dX7_isAhead_148 ?_
  refine k_callVI (vs := [.int x3]) hX (fun _ h9 => m_X7_begins hX.2.2.2.2.2.2.1  h9) io_218 rfl ml_X7_94 ⟨Nat.le_of_ble_eq_true rfl, Nat.le_of_ble_eq_true rfl⟩ rfl rfl (Nat.le_of_ble_eq_true rfl) dX7_isAhead_149 (fun q1 => ?_)
  refine k_aload_n hX (i := 0) rfl rfl dX7_isAhead_152 ?_
  refine k_iload hX rfl dX7_isAhead_153 ?_
  refine k_callVI (vs := [.int x4]) hX (fun _ h9 => m_X7_begins hX.2.2.2.2.2.2.1  h9) io_218 rfl ml_X7_94 ⟨Nat.le_of_ble_eq_true rfl, Nat.le_of_ble_eq_true rfl⟩ rfl rfl (Nat.le_of_ble_eq_true rfl) dX7_isAhead_155 (fun q2 => ?_)
  refine k_icmp_ne (tgt := 175) hX dX7_isAhead_158 (by decide) (fun b3 => ?_) (fun b3 => ?_)
  · refine k_aload_n hX (i := 0) rfl rfl dX7_isAhead_175 ?_
    refine k_iload_n hX (i := 3) rfl rfl dX7_isAhead_176 ?_
    refine k_callVI (vs := [.int x3]) hX (fun _ h9 => m_X7_begins hX.2.2.2.2.2.2.1  h9) io_218 rfl ml_X7_94 ⟨Nat.le_of_ble_eq_true rfl, Nat.le_of_ble_eq_true rfl⟩ rfl rfl (Nat.le_of_ble_eq_true rfl) dX7_isAhead_177 (fun q4 => ?_)
    refine k_aload_n hX (i := 0) rfl rfl dX7_isAhead_180 ?_
    refine k_iload hX rfl dX7_isAhead_181 ?_
    refine k_callVI (vs := [.int x4]) hX (fun _ h9 => m_X7_begins hX.2.2.2.2.2.2.1  h9) io_218 rfl ml_X7_94 ⟨Nat.le_of_ble_eq_true rfl, Nat.le_of_ble_eq_true rfl⟩ rfl rfl (Nat.le_of_ble_eq_true rfl) dX7_isAhead_183 (fun q5 => ?_)
    refine k_icmp_ge (tgt := 193) hX dX7_isAhead_186 (by decide) (fun b6 => ?_) (fun b6 => ?_)
    · refine k_iconst (v := (nI 0)) hX rfl dX7_isAhead_193 ?_
      exact w_X7_isAhead_194 hX (nI 0) q5.2 trivial
    refine k_iconst (v := (nI 1)) hX rfl dX7_isAhead_189 ?_
    refine k_goto (tgt := 194) hX dX7_isAhead_190 (by decide) ?_
    exact w_X7_isAhead_194 hX (nI 1) q5.2 trivial
  refine k_iload_n hX (i := 3) rfl rfl dX7_isAhead_161 ?_
  refine k_iload hX rfl dX7_isAhead_162 ?_
  refine k_icmp_ge (tgt := 171) hX dX7_isAhead_164 (by decide) (fun b7 => ?_) (fun b7 => ?_)
  · refine k_iconst (v := (nI 0)) hX rfl dX7_isAhead_171 ?_
    refine k_goto (tgt := 194) hX dX7_isAhead_172 (by decide) ?_
    exact w_X7_isAhead_194 hX (nI 0) q2.2 trivial
  refine k_iconst (v := (nI 1)) hX rfl dX7_isAhead_167 ?_
  refine k_goto (tgt := 194) hX dX7_isAhead_168 (by decide) ?_
  exact w_X7_isAhead_194 hX (nI 1) q2.2 trivial
set_option maxHeartbeats 4000000 in
set_option maxRecDepth 100000 in
theorem w_X7_isAhead_5 {l : Launch} {G : GL} {ad : Nat → Nat} {MM : Mem} {X : CT} (hX : Cx l { frames := 2, cells := 0, slots := 0, locals := 43 } cX7_isAhead RX7 7 (some .boolean) G ad X) : ∀ (n : Nat), ∀ (x3 : Int32) (x4 : Int32) (M : Mem) {L : List (Option Value)}, lsub [some (.ref (ad 218)), none, none, some (.int x3), some (.int x4), none, none] L → KF l { frames := 2, cells := 0, slots := 0, locals := 43 } 7 G ad (EM G ad MM) (QP PostI G ad (EM G ad MM)) X (f_X7_isAhead_5 n x3 x4 M) L 5 [] M := by
  intro n
  induction n with
  | zero =>
    intro x3 x4 M L hL
    exact KF.none'
  | succ n ih =>
    intro x3 x4 M L hL
    rw [f_X7_isAhead_5]
    refine KF.locals (lsub_le hL) ?_
    refine k_aload_n hX (i := 0) rfl rfl dX7_isAhead_5 ?_
    refine k_iload_n hX (i := 3) rfl rfl dX7_isAhead_6 ?_
    refine k_callVI (vs := [.int x3]) hX (fun _ h9 => m_X7_begins hX.2.2.2.2.2.2.1  h9) io_218 rfl ml_X7_94 ⟨Nat.le_of_ble_eq_true rfl, Nat.le_of_ble_eq_true rfl⟩ rfl rfl (Nat.le_of_ble_eq_true rfl) dX7_isAhead_7 (fun q1 => ?_)
    refine k_aload_n hX (i := 0) rfl rfl dX7_isAhead_10 ?_
    refine k_iload hX rfl dX7_isAhead_11 ?_
    refine k_callVI (vs := [.int x4]) hX (fun _ h9 => m_X7_begins hX.2.2.2.2.2.2.1  h9) io_218 rfl ml_X7_94 ⟨Nat.le_of_ble_eq_true rfl, Nat.le_of_ble_eq_true rfl⟩ rfl rfl (Nat.le_of_ble_eq_true rfl) dX7_isAhead_13 (fun q2 => ?_)
    refine k_icmp_ne (tgt := 147) hX dX7_isAhead_16 (by decide) (fun b3 => ?_) (fun b3 => ?_)
    · exact w_X7_isAhead_147 hX x3 x4 q2.2 ⟨rfl, rfl, rfl, trivial⟩
    refine k_iload_n hX (i := 3) rfl rfl dX7_isAhead_19 ?_
    refine k_bipush (v := (nI 16)) hX rfl dX7_isAhead_20 ?_
    refine k_icmp_lt (tgt := 147) hX dX7_isAhead_22 (by decide) (fun b4 => ?_) (fun b4 => ?_)
    · exact w_X7_isAhead_147 hX x3 x4 q2.2 ⟨rfl, rfl, rfl, trivial⟩
    refine k_iconst (v := (nI 0)) hX rfl dX7_isAhead_25 ?_
    refine k_istore (L' := [some (.ref (ad 218)), none, none, some (.int x3), some (.int x4), some (.int (nI 0)), none]) hX (by decide) rfl dX7_isAhead_26 ?_
    exact w_X7_isAhead_28 hX ih fuelN x3 x4 (nI 0) q2.2 ⟨rfl, rfl, rfl, rfl, trivial⟩
set_option maxHeartbeats 4000000 in
set_option maxRecDepth 100000 in
theorem w_X7_isAhead {l : Launch} {G : GL} {ad : Nat → Nat} {MM : Mem} {X : CT} (hX : Cx l { frames := 2, cells := 0, slots := 0, locals := 43 } cX7_isAhead RX7 7 (some .boolean) G ad X) {p1 : Int32} {p2 : Int32} {M : Mem} : KF l { frames := 2, cells := 0, slots := 0, locals := 43 } 7 G ad (EM G ad MM) (QP PostI G ad (EM G ad MM)) X (f_X7_isAhead p1 p2 M) [some (.ref (ad 218)), some (.int p1), some (.int p2), none, none, none, none] 0 [] M := by
  unfold f_X7_isAhead
  refine k_iload_n hX (i := 1) rfl rfl dX7_isAhead_0 ?_
  refine k_istore_n (L' := [some (.ref (ad 218)), some (.int p1), some (.int p2), some (.int p1), none, none, none]) hX (i := 3) rfl (by decide) rfl dX7_isAhead_1 ?_
  refine k_iload_n hX (i := 2) rfl rfl dX7_isAhead_2 ?_
  refine k_istore (L' := [some (.ref (ad 218)), some (.int p1), some (.int p2), some (.int p1), some (.int p2), none, none]) hX (by decide) rfl dX7_isAhead_3 ?_
  exact w_X7_isAhead_5 hX fuelN p1 p2 M ⟨rfl, rfl, rfl, trivial⟩
set_option maxRecDepth 100000 in
theorem m_X7_isAhead {l : Launch} {G : GL} {ad : Nat → Nat} {MM : Mem} (hAd : AdOK G ad) {p1 : Int32} {p2 : Int32} {M : Mem} {r : Rv} (h : f_X7_isAhead p1 p2 M = some r) : Ct PostI l G ad (EM G ad MM) yX7_isAhead cX7_isAhead 7 (some .boolean) 2 43 [.ref (ad 218), .int p1, .int p2] M r := ct_of' hAd (by decide +kernel) (List.forall_mem_cons.mpr ⟨rfl, (List.forall_mem_cons.mpr ⟨rfl, (List.forall_mem_cons.mpr ⟨rfl, (fun _ h => absurd h List.not_mem_nil)⟩)⟩)⟩) (Nat.le_of_ble_eq_true rfl) (L := [some (.ref (ad 218)), some (.int p1), some (.int p2), none, none, none, none]) rfl (fun _ hX => w_X7_isAhead hX) h
set_option maxHeartbeats 4000000 in
set_option maxRecDepth 100000 in
theorem w_X7_beginPut {l : Launch} {G : GL} {ad : Nat → Nat} {MM : Mem} {X : CT} (hX : Cx l { frames := 0, cells := 0, slots := 0, locals := 0 } cX7_beginPut RX7 1 none G ad X) {M : Mem} : KF l { frames := 0, cells := 0, slots := 0, locals := 0 } 1 G ad (EM G ad MM) (QP PostV G ad (EM G ad MM)) X (f_X7_beginPut M) [some (.ref (ad 218))] 0 [] M := by
  unfold f_X7_beginPut
  refine k_aload_n hX (i := 0) rfl rfl dX7_beginPut_0 ?_
  refine k_iconst (v := (nI 0)) hX rfl dX7_beginPut_1 ?_
  refine k_puti hX locM io_218 fp_X7_84 (Nat.le_of_ble_eq_true rfl) rfl dX7_beginPut_2 (fun M1 => ?_)
  refine k_aload_n hX (i := 0) rfl rfl dX7_beginPut_5 ?_
  refine k_iconst (v := (nI 0)) hX rfl dX7_beginPut_6 ?_
  refine k_putz hX locM io_218 fp_X7_104 (Nat.le_of_ble_eq_true rfl) rfl dX7_beginPut_7 (fun M2 => ?_)
  exact k_vret hX dX7_beginPut_10
set_option maxRecDepth 100000 in
theorem m_X7_beginPut {l : Launch} {G : GL} {ad : Nat → Nat} {MM : Mem} (hAd : AdOK G ad) {M : Mem} {r : Rv} (h : f_X7_beginPut M = some r) : Ct PostV l G ad (EM G ad MM) yX7_beginPut cX7_beginPut 1 none 0 0 [.ref (ad 218)] M r := ct_of' hAd (by decide +kernel) (List.forall_mem_cons.mpr ⟨rfl, (fun _ h => absurd h List.not_mem_nil)⟩) (Nat.le_of_ble_eq_true rfl) (L := [some (.ref (ad 218))]) rfl (fun _ hX => w_X7_beginPut hX) h
set_option maxHeartbeats 4000000 in
set_option maxRecDepth 100000 in
theorem w_X7_counter_56 {l : Launch} {G : GL} {ad : Nat → Nat} {MM : Mem} {X : CT} (hX : Cx l { frames := 0, cells := 0, slots := 0, locals := 0 } cX7_counter RX7 1 (some .int) G ad X) : ∀ (s0 : Int32) (M : Mem) {L : List (Option Value)}, lsub [none] L → KF l { frames := 0, cells := 0, slots := 0, locals := 0 } 1 G ad (EM G ad MM) (QP PostI G ad (EM G ad MM)) X (f_X7_counter_56 s0 M) L 56 [.int s0] M := by
  intro s0 M L hL
  unfold f_X7_counter_56
  refine KF.locals (lsub_le hL) ?_
  exact k_iret hX dX7_counter_56
set_option maxHeartbeats 4000000 in
set_option maxRecDepth 100000 in
theorem w_X7_counter_55 {l : Launch} {G : GL} {ad : Nat → Nat} {MM : Mem} {X : CT} (hX : Cx l { frames := 0, cells := 0, slots := 0, locals := 0 } cX7_counter RX7 1 (some .int) G ad X) : ∀ (M : Mem) {L : List (Option Value)}, lsub [none] L → KF l { frames := 0, cells := 0, slots := 0, locals := 0 } 1 G ad (EM G ad MM) (QP PostI G ad (EM G ad MM)) X (f_X7_counter_55 M) L 55 [] M := by
  intro M L hL
  unfold f_X7_counter_55
  refine KF.locals (lsub_le hL) ?_
  refine k_iconst (v := (-1)) hX rfl dX7_counter_55 ?_
  exact w_X7_counter_56 hX (-1) M trivial
set_option maxHeartbeats 4000000 in
set_option maxRecDepth 100000 in
theorem w_X7_counter_36 {l : Launch} {G : GL} {ad : Nat → Nat} {MM : Mem} {X : CT} (hX : Cx l { frames := 0, cells := 0, slots := 0, locals := 0 } cX7_counter RX7 1 (some .int) G ad X) : ∀ (x0 : Int32) (M : Mem) {L : List (Option Value)}, lsub [some (.int x0)] L → KF l { frames := 0, cells := 0, slots := 0, locals := 0 } 1 G ad (EM G ad MM) (QP PostI G ad (EM G ad MM)) X (f_X7_counter_36 x0 M) L 36 [] M := by
  intro x0 M L hL
  unfold f_X7_counter_36
  refine KF.locals (lsub_le hL) ?_
  refine k_iload_n hX (i := 0) rfl rfl dX7_counter_36 ?_
  refine k_bipush (v := (nI 10)) hX rfl dX7_counter_37 ?_
  refine k_icmp_lt (tgt := 55) hX dX7_counter_39 (by decide) (fun b1 => ?_) (fun b1 => ?_)
  · exact w_X7_counter_55 hX M trivial
  refine k_iload_n hX (i := 0) rfl rfl dX7_counter_42 ?_
  refine k_bipush (v := (nI 16)) hX rfl dX7_counter_43 ?_
  refine k_icmp_ge (tgt := 55) hX dX7_counter_45 (by decide) (fun b2 => ?_) (fun b2 => ?_)
  · exact w_X7_counter_55 hX M trivial
  refine k_iload_n hX (i := 0) rfl rfl dX7_counter_48 ?_
  refine k_bipush (v := (nI 6)) hX rfl dX7_counter_49 ?_
  refine k_isub hX dX7_counter_51 ?_
  refine k_goto (tgt := 56) hX dX7_counter_52 (by decide) ?_
  exact w_X7_counter_56 hX (x0 - (nI 6)) M trivial
set_option maxHeartbeats 4000000 in
set_option maxRecDepth 100000 in
theorem w_X7_counter {l : Launch} {G : GL} {ad : Nat → Nat} {MM : Mem} {X : CT} (hX : Cx l { frames := 0, cells := 0, slots := 0, locals := 0 } cX7_counter RX7 1 (some .int) G ad X) {p1 : Int32} {M : Mem} : KF l { frames := 0, cells := 0, slots := 0, locals := 0 } 1 G ad (EM G ad MM) (QP PostI G ad (EM G ad MM)) X (f_X7_counter p1 M) [some (.int p1)] 0 [] M := by
  unfold f_X7_counter
  refine k_iload_n hX (i := 0) rfl rfl dX7_counter_0 ?_
  refine k_iconst (v := (nI 2)) hX rfl dX7_counter_1 ?_
  refine k_icmp_ne (tgt := 9) hX dX7_counter_2 (by decide) (fun b1 => ?_) (fun b1 => ?_)
  · refine k_iload_n hX (i := 0) rfl rfl dX7_counter_9 ?_
    refine k_iconst (v := (nI 3)) hX rfl dX7_counter_10 ?_
    refine k_icmp_ne (tgt := 18) hX dX7_counter_11 (by decide) (fun b2 => ?_) (fun b2 => ?_)
    · refine k_iload_n hX (i := 0) rfl rfl dX7_counter_18 ?_
      refine k_iconst (v := (nI 4)) hX rfl dX7_counter_19 ?_
      refine k_icmp_lt (tgt := 36) hX dX7_counter_20 (by decide) (fun b3 => ?_) (fun b3 => ?_)
      · exact w_X7_counter_36 hX p1 M ⟨rfl, trivial⟩
      refine k_iload_n hX (i := 0) rfl rfl dX7_counter_23 ?_
      refine k_bipush (v := (nI 10)) hX rfl dX7_counter_24 ?_
      refine k_icmp_ge (tgt := 36) hX dX7_counter_26 (by decide) (fun b4 => ?_) (fun b4 => ?_)
      · exact w_X7_counter_36 hX p1 M ⟨rfl, trivial⟩
      refine k_iload_n hX (i := 0) rfl rfl dX7_counter_29 ?_
      refine k_bipush (v := (nI 6)) hX rfl dX7_counter_30 ?_
      refine k_iadd hX dX7_counter_32 ?_
      refine k_goto (tgt := 56) hX dX7_counter_33 (by decide) ?_
      exact w_X7_counter_56 hX (p1 + (nI 6)) M trivial
    refine k_iconst (v := (nI 2)) hX rfl dX7_counter_14 ?_
    refine k_goto (tgt := 56) hX dX7_counter_15 (by decide) ?_
    exact w_X7_counter_56 hX (nI 2) M trivial
  refine k_iconst (v := (nI 3)) hX rfl dX7_counter_5 ?_
  refine k_goto (tgt := 56) hX dX7_counter_6 (by decide) ?_
  exact w_X7_counter_56 hX (nI 3) M trivial
set_option maxRecDepth 100000 in
theorem m_X7_counter {l : Launch} {G : GL} {ad : Nat → Nat} {MM : Mem} (hAd : AdOK G ad) {p1 : Int32} {M : Mem} {r : Rv} (h : f_X7_counter p1 M = some r) : Ct PostI l G ad (EM G ad MM) yX7_counter cX7_counter 1 (some .int) 0 0 [.int p1] M r := ct_of' hAd (by decide +kernel) (List.forall_mem_cons.mpr ⟨rfl, (fun _ h => absurd h List.not_mem_nil)⟩) (Nat.le_of_ble_eq_true rfl) (L := [some (.int p1)]) rfl (fun _ hX => w_X7_counter hX) h
set_option maxHeartbeats 4000000 in
set_option maxRecDepth 100000 in
theorem w_X7_putOne_34 {l : Launch} {G : GL} {ad : Nat → Nat} {MM : Mem} {X : CT} (hX : Cx l { frames := 3, cells := 0, slots := 0, locals := 69 } cX7_putOne RX7 7 none G ad X) : ∀ (s0 : Int32) (M : Mem) {L : List (Option Value)}, lsub [none, none, none, none, none, none, none] L → KF l { frames := 3, cells := 0, slots := 0, locals := 69 } 7 G ad (EM G ad MM) (QP PostV G ad (EM G ad MM)) X (f_X7_putOne_34 s0 M) L 34 [.int s0, .ref (ad 218)] M := by
  intro s0 M L hL
  unfold f_X7_putOne_34
  refine KF.locals (lsub_le hL) ?_
  refine k_putz hX locM io_218 fp_X7_104 (Nat.le_of_ble_eq_true rfl) rfl dX7_putOne_34 (fun M1 => ?_)
  exact k_vret hX dX7_putOne_37
set_option maxHeartbeats 4000000 in
set_option maxRecDepth 100000 in
theorem w_X7_putOne_29 {l : Launch} {G : GL} {ad : Nat → Nat} {MM : Mem} {X : CT} (hX : Cx l { frames := 3, cells := 0, slots := 0, locals := 69 } cX7_putOne RX7 7 none G ad X) : ∀ (M : Mem) {L : List (Option Value)}, lsub [none, none, none, none, none, none, none] L → KF l { frames := 3, cells := 0, slots := 0, locals := 69 } 7 G ad (EM G ad MM) (QP PostV G ad (EM G ad MM)) X (f_X7_putOne_29 M) L 29 [.ref (ad 218)] M := by
  intro M L hL
  unfold f_X7_putOne_29
  refine KF.locals (lsub_le hL) ?_
  refine k_iconst (v := (nI 1)) hX rfl dX7_putOne_29 ?_
  refine k_goto (tgt := 34) hX dX7_putOne_30 (by decide) ?_
  exact w_X7_putOne_34 hX (nI 1) M trivial
set_option maxHeartbeats 4000000 in
set_option maxRecDepth 100000 in
theorem w_X7_putOne_106 {l : Launch} {G : GL} {ad : Nat → Nat} {MM : Mem} {X : CT} (hX : Cx l { frames := 3, cells := 0, slots := 0, locals := 69 } cX7_putOne RX7 7 none G ad X) {k47 : Int32 → Int32 → Int32 → Int32 → Mem → Option Rv} (hk47 : ∀ (x2 : Int32) (x4 : Int32) (x5 : Int32) (x6 : Int32) (M : Mem) {L : List (Option Value)}, lsub [some (.ref (ad 218)), none, some (.int x2), none, some (.int x4), some (.int x5), some (.int x6)] L → KF l { frames := 3, cells := 0, slots := 0, locals := 69 } 7 G ad (EM G ad MM) (QP PostV G ad (EM G ad MM)) X (k47 x2 x4 x5 x6 M) L 47 [] M) : ∀ (x2 : Int32) (x4 : Int32) (x5 : Int32) (x6 : Int32) (s0 : Int32) (M : Mem) {L : List (Option Value)}, lsub [some (.ref (ad 218)), none, some (.int x2), none, some (.int x4), some (.int x5), some (.int x6)] L → KF l { frames := 3, cells := 0, slots := 0, locals := 69 } 7 G ad (EM G ad MM) (QP PostV G ad (EM G ad MM)) X (f_X7_putOne_106 k47 x2 x4 x5 x6 s0 M) L 106 [.int s0, .ref (ad 218)] M := by
  intro x2 x4 x5 x6 s0 M L hL
  unfold f_X7_putOne_106
  refine KF.locals (lsub_le hL) ?_
  refine k_putz hX locM io_218 fp_X7_104 (Nat.le_of_ble_eq_true rfl) rfl dX7_putOne_106 (fun M1 => ?_)
  refine k_iinc (v := x6 + nI 1) (L' := [some (.ref (ad 218)), none, some (.int x2), none, some (.int x4), some (.int x5), some (.int (x6 + nI 1))]) hX (i := 6) rfl rfl (by decide) rfl dX7_putOne_109 ?_
  refine k_goto (tgt := 47) hX dX7_putOne_112 (by decide) ?_
  exact hk47 x2 x4 x5 (x6 + nI 1) M1 ⟨rfl, rfl, rfl, rfl, rfl, trivial⟩
set_option maxHeartbeats 4000000 in
set_option maxRecDepth 100000 in
theorem w_X7_putOne_101 {l : Launch} {G : GL} {ad : Nat → Nat} {MM : Mem} {X : CT} (hX : Cx l { frames := 3, cells := 0, slots := 0, locals := 69 } cX7_putOne RX7 7 none G ad X) {k47 : Int32 → Int32 → Int32 → Int32 → Mem → Option Rv} (hk47 : ∀ (x2 : Int32) (x4 : Int32) (x5 : Int32) (x6 : Int32) (M : Mem) {L : List (Option Value)}, lsub [some (.ref (ad 218)), none, some (.int x2), none, some (.int x4), some (.int x5), some (.int x6)] L → KF l { frames := 3, cells := 0, slots := 0, locals := 69 } 7 G ad (EM G ad MM) (QP PostV G ad (EM G ad MM)) X (k47 x2 x4 x5 x6 M) L 47 [] M) : ∀ (x2 : Int32) (x4 : Int32) (x5 : Int32) (x6 : Int32) (M : Mem) {L : List (Option Value)}, lsub [some (.ref (ad 218)), none, some (.int x2), none, some (.int x4), some (.int x5), some (.int x6)] L → KF l { frames := 3, cells := 0, slots := 0, locals := 69 } 7 G ad (EM G ad MM) (QP PostV G ad (EM G ad MM)) X (f_X7_putOne_101 k47 x2 x4 x5 x6 M) L 101 [.ref (ad 218)] M := by
  intro x2 x4 x5 x6 M L hL
  unfold f_X7_putOne_101
  refine KF.locals (lsub_le hL) ?_
  refine k_iconst (v := (nI 1)) hX rfl dX7_putOne_101 ?_
  refine k_goto (tgt := 106) hX dX7_putOne_102 (by decide) ?_
  exact w_X7_putOne_106 hX hk47 x2 x4 x5 x6 (nI 1) M ⟨rfl, rfl, rfl, rfl, rfl, trivial⟩
set_option maxHeartbeats 4000000 in
set_option maxRecDepth 100000 in
theorem w_X7_putOne_77 {l : Launch} {G : GL} {ad : Nat → Nat} {MM : Mem} {X : CT} (hX : Cx l { frames := 3, cells := 0, slots := 0, locals := 69 } cX7_putOne RX7 7 none G ad X) {k47 : Int32 → Int32 → Int32 → Int32 → Mem → Option Rv} (hk47 : ∀ (x2 : Int32) (x4 : Int32) (x5 : Int32) (x6 : Int32) (M : Mem) {L : List (Option Value)}, lsub [some (.ref (ad 218)), none, some (.int x2), none, some (.int x4), some (.int x5), some (.int x6)] L → KF l { frames := 3, cells := 0, slots := 0, locals := 69 } 7 G ad (EM G ad MM) (QP PostV G ad (EM G ad MM)) X (k47 x2 x4 x5 x6 M) L 47 [] M) : ∀ (x2 : Int32) (x4 : Int32) (x6 : Int32) (s0 : Int32) (M : Mem) {L : List (Option Value)}, lsub [some (.ref (ad 218)), none, some (.int x2), none, some (.int x4), none, some (.int x6)] L → KF l { frames := 3, cells := 0, slots := 0, locals := 69 } 7 G ad (EM G ad MM) (QP PostV G ad (EM G ad MM)) X (f_X7_putOne_77 k47 x2 x4 x6 s0 M) L 77 [.int s0] M := by
  intro x2 x4 x6 s0 M L hL
  unfold f_X7_putOne_77
  refine KF.locals (lsub_le hL) ?_
  refine k_istore (L' := [some (.ref (ad 218)), none, some (.int x2), none, some (.int x4), some (.int s0), some (.int x6)]) hX (by decide) rfl dX7_putOne_77 ?_
  refine k_aload_n hX (i := 0) rfl rfl dX7_putOne_79 ?_
  refine k_aload_n hX (i := 0) rfl rfl dX7_putOne_80 ?_
  refine k_get hX io_218 fl_X7_104 rfl dX7_putOne_81 ?_
  refine k_if_ne (tgt := 101) hX dX7_putOne_84 (by decide) (fun b1 => ?_) (fun b1 => ?_)
  · exact w_X7_putOne_101 hX hk47 x2 x4 s0 x6 M ⟨rfl, rfl, rfl, rfl, rfl, trivial⟩
  refine k_aload_n hX (i := 0) rfl rfl dX7_putOne_87 ?_
  refine k_get hX io_218 fl_X7_46 rfl dX7_putOne_88 ?_
  refine k_iload hX rfl dX7_putOne_91 ?_
  refine k_ald hX ia_230 dX7_putOne_93 (fun v2 => ?_)
  refine k_iload_n hX (i := 2) rfl rfl dX7_putOne_94 ?_
  refine k_callSI (vs := [.int x2]) hX (fun _ h9 => m_X7_counter hX.2.2.2.2.2.2.1  h9) ml_X7_108 ⟨Nat.le_of_ble_eq_true rfl, Nat.le_of_ble_eq_true rfl⟩ rfl rfl (Nat.le_of_ble_eq_true rfl) dX7_putOne_95 (fun q3 => ?_)
  refine k_icmp_ne (tgt := 105) hX dX7_putOne_98 (by decide) (fun b4 => ?_) (fun b4 => ?_)
  · refine k_iconst (v := (nI 0)) hX rfl dX7_putOne_105 ?_
    exact w_X7_putOne_106 hX hk47 x2 x4 s0 x6 (nI 0) q3.2 ⟨rfl, rfl, rfl, rfl, rfl, trivial⟩
  exact w_X7_putOne_101 hX hk47 x2 x4 s0 x6 q3.2 ⟨rfl, rfl, rfl, rfl, rfl, trivial⟩
set_option maxHeartbeats 4000000 in
set_option maxRecDepth 100000 in
theorem w_X7_putOne_72 {l : Launch} {G : GL} {ad : Nat → Nat} {MM : Mem} {X : CT} (hX : Cx l { frames := 3, cells := 0, slots := 0, locals := 69 } cX7_putOne RX7 7 none G ad X) {k47 : Int32 → Int32 → Int32 → Int32 → Mem → Option Rv} (hk47 : ∀ (x2 : Int32) (x4 : Int32) (x5 : Int32) (x6 : Int32) (M : Mem) {L : List (Option Value)}, lsub [some (.ref (ad 218)), none, some (.int x2), none, some (.int x4), some (.int x5), some (.int x6)] L → KF l { frames := 3, cells := 0, slots := 0, locals := 69 } 7 G ad (EM G ad MM) (QP PostV G ad (EM G ad MM)) X (k47 x2 x4 x5 x6 M) L 47 [] M) : ∀ (x2 : Int32) (x4 : Int32) (x6 : Int32) (M : Mem) {L : List (Option Value)}, lsub [some (.ref (ad 218)), none, some (.int x2), none, some (.int x4), none, some (.int x6)] L → KF l { frames := 3, cells := 0, slots := 0, locals := 69 } 7 G ad (EM G ad MM) (QP PostV G ad (EM G ad MM)) X (f_X7_putOne_72 k47 x2 x4 x6 M) L 72 [] M := by
  intro x2 x4 x6 M L hL
  unfold f_X7_putOne_72
  refine KF.locals (lsub_le hL) ?_
  refine k_iconst (v := (nI 1)) hX rfl dX7_putOne_72 ?_
  refine k_goto (tgt := 77) hX dX7_putOne_73 (by decide) ?_
  exact w_X7_putOne_77 hX hk47 x2 x4 x6 (nI 1) M ⟨rfl, rfl, rfl, rfl, trivial⟩
set_option maxHeartbeats 4000000 in
set_option maxRecDepth 100000 in
theorem w_X7_putOne_157 {l : Launch} {G : GL} {ad : Nat → Nat} {MM : Mem} {X : CT} (hX : Cx l { frames := 3, cells := 0, slots := 0, locals := 69 } cX7_putOne RX7 7 none G ad X) : ∀ (n : Nat), ∀ (x2 : Int32) (x4 : Int32) (x6 : Int32) (M : Mem) {L : List (Option Value)}, lsub [some (.ref (ad 218)), none, some (.int x2), none, some (.int x4), none, some (.int x6)] L → KF l { frames := 3, cells := 0, slots := 0, locals := 69 } 7 G ad (EM G ad MM) (QP PostV G ad (EM G ad MM)) X (f_X7_putOne_157 n x2 x4 x6 M) L 157 [] M := by
  intro n
  induction n with
  | zero =>
    intro x2 x4 x6 M L hL
    exact KF.none'
  | succ n ih =>
    intro x2 x4 x6 M L hL
    rw [f_X7_putOne_157]
    refine KF.locals (lsub_le hL) ?_
    refine k_iload hX rfl dX7_putOne_157 ?_
    refine k_iload hX rfl dX7_putOne_159 ?_
    refine k_icmp_le (tgt := 186) hX dX7_putOne_161 (by decide) (fun b1 => ?_) (fun b1 => ?_)
    · refine k_aload_n hX (i := 0) rfl rfl dX7_putOne_186 ?_
      refine k_get hX io_218 fl_X7_46 rfl dX7_putOne_187 ?_
      refine k_iload hX rfl dX7_putOne_190 ?_
      refine k_iload_n hX (i := 2) rfl rfl dX7_putOne_192 ?_
      refine k_ast hX locM ia_230 dX7_putOne_193 (fun M2 => ?_)
      refine k_aload_n hX (i := 0) rfl rfl dX7_putOne_194 ?_
      refine k_dup hX rfl dX7_putOne_195 ?_
      refine k_get hX io_218 fl_X7_84 rfl dX7_putOne_196 ?_
      refine k_iconst (v := (nI 1)) hX rfl dX7_putOne_199 ?_
      refine k_iadd hX dX7_putOne_200 ?_
      refine k_puti hX locM io_218 fp_X7_84 (Nat.le_of_ble_eq_true rfl) rfl dX7_putOne_201 (fun M3 => ?_)
      exact k_vret hX dX7_putOne_204
    refine k_aload_n hX (i := 0) rfl rfl dX7_putOne_164 ?_
    refine k_get hX io_218 fl_X7_46 rfl dX7_putOne_165 ?_
    refine k_iload hX rfl dX7_putOne_168 ?_
    refine k_aload_n hX (i := 0) rfl rfl dX7_putOne_170 ?_
    refine k_get hX io_218 fl_X7_46 rfl dX7_putOne_171 ?_
    refine k_iload hX rfl dX7_putOne_174 ?_
    refine k_iconst (v := (nI 1)) hX rfl dX7_putOne_176 ?_
    refine k_isub hX dX7_putOne_177 ?_
    refine k_ald hX ia_230 dX7_putOne_178 (fun v4 => ?_)
    refine k_ast hX locM ia_230 dX7_putOne_179 (fun M5 => ?_)
    refine k_iinc (v := x6 - nI 1) (L' := [some (.ref (ad 218)), none, some (.int x2), none, some (.int x4), none, some (.int (x6 - nI 1))]) hX (i := 6) rfl (iinc_neg _ _ rfl) (by decide) rfl dX7_putOne_180 ?_
    refine k_goto (tgt := 157) hX dX7_putOne_183 (by decide) ?_
    exact ih x2 x4 (x6 - nI 1) M5 ⟨rfl, rfl, rfl, rfl, trivial⟩
set_option maxHeartbeats 4000000 in
set_option maxRecDepth 100000 in
theorem w_X7_putOne_151 {l : Launch} {G : GL} {ad : Nat → Nat} {MM : Mem} {X : CT} (hX : Cx l { frames := 3, cells := 0, slots := 0, locals := 69 } cX7_putOne RX7 7 none G ad X) : ∀ (x2 : Int32) (x4 : Int32) (M : Mem) {L : List (Option Value)}, lsub [some (.ref (ad 218)), none, some (.int x2), none, some (.int x4), none, none] L → KF l { frames := 3, cells := 0, slots := 0, locals := 69 } 7 G ad (EM G ad MM) (QP PostV G ad (EM G ad MM)) X (f_X7_putOne_151 x2 x4 M) L 151 [] M := by
  intro x2 x4 M L hL
  unfold f_X7_putOne_151
  refine KF.locals (lsub_le hL) ?_
  refine k_aload_n hX (i := 0) rfl rfl dX7_putOne_151 ?_
  refine k_get hX io_218 fl_X7_84 rfl dX7_putOne_152 ?_
  refine k_istore (L' := [some (.ref (ad 218)), none, some (.int x2), none, some (.int x4), none, some (.int (M 218 14))]) hX (by decide) rfl dX7_putOne_155 ?_
  exact w_X7_putOne_157 hX fuelN x2 x4 (M 218 14) M ⟨rfl, rfl, rfl, rfl, trivial⟩
set_option maxHeartbeats 4000000 in
set_option maxRecDepth 100000 in
theorem w_X7_putOne_121 {l : Launch} {G : GL} {ad : Nat → Nat} {MM : Mem} {X : CT} (hX : Cx l { frames := 3, cells := 0, slots := 0, locals := 69 } cX7_putOne RX7 7 none G ad X) : ∀ (n : Nat), ∀ (x2 : Int32) (x4 : Int32) (M : Mem) {L : List (Option Value)}, lsub [some (.ref (ad 218)), none, some (.int x2), none, some (.int x4), none, none] L → KF l { frames := 3, cells := 0, slots := 0, locals := 69 } 7 G ad (EM G ad MM) (QP PostV G ad (EM G ad MM)) X (f_X7_putOne_121 n x2 x4 M) L 121 [] M := by
  intro n
  induction n with
  | zero =>
    intro x2 x4 M L hL
    exact KF.none'
  | succ n ih =>
    intro x2 x4 M L hL
    rw [f_X7_putOne_121]
    refine KF.locals (lsub_le hL) ?_
    refine k_iload hX rfl dX7_putOne_121 ?_
    refine k_aload_n hX (i := 0) rfl rfl dX7_putOne_123 ?_
    refine k_get hX io_218 fl_X7_84 rfl dX7_putOne_124 ?_
    refine k_icmp_ge (tgt := 151) hX dX7_putOne_127 (by decide) (fun b1 => ?_) (fun b1 => ?_)
    · exact w_X7_putOne_151 hX x2 x4 M ⟨rfl, rfl, rfl, trivial⟩
    refine k_aload_n hX (i := 0) rfl rfl dX7_putOne_130 ?_
    refine k_aload_n hX (i := 0) rfl rfl dX7_putOne_131 ?_
    refine k_get hX io_218 fl_X7_46 rfl dX7_putOne_132 ?_
    refine k_iload hX rfl dX7_putOne_135 ?_
    refine k_ald hX ia_230 dX7_putOne_137 (fun v2 => ?_)
    refine k_iload_n hX (i := 2) rfl rfl dX7_putOne_138 ?_
    refine k_callVI (vs := [.int v2, .int x2]) hX (fun _ h9 => m_X7_isAhead hX.2.2.2.2.2.2.1  h9) io_218 rfl ml_X7_111 ⟨Nat.le_of_ble_eq_true rfl, Nat.le_of_ble_eq_true rfl⟩ rfl rfl (Nat.le_of_ble_eq_true rfl) dX7_putOne_139 (fun q3 => ?_)
    refine k_if_eq (tgt := 151) hX dX7_putOne_142 (by decide) (fun b4 => ?_) (fun b4 => ?_)
    · exact w_X7_putOne_151 hX x2 x4 q3.2 ⟨rfl, rfl, rfl, trivial⟩
    refine k_iinc (v := x4 + nI 1) (L' := [some (.ref (ad 218)), none, some (.int x2), none, some (.int (x4 + nI 1)), none, none]) hX (i := 4) rfl rfl (by decide) rfl dX7_putOne_145 ?_
    refine k_goto (tgt := 121) hX dX7_putOne_148 (by decide) ?_
    exact ih x2 (x4 + nI 1) q3.2 ⟨rfl, rfl, rfl, trivial⟩
set_option maxHeartbeats 4000000 in
set_option maxRecDepth 100000 in
theorem w_X7_putOne_47 {l : Launch} {G : GL} {ad : Nat → Nat} {MM : Mem} {X : CT} (hX : Cx l { frames := 3, cells := 0, slots := 0, locals := 69 } cX7_putOne RX7 7 none G ad X) : ∀ (n : Nat), ∀ (x2 : Int32) (x4 : Int32) (x5 : Int32) (x6 : Int32) (M : Mem) {L : List (Option Value)}, lsub [some (.ref (ad 218)), none, some (.int x2), none, some (.int x4), some (.int x5), some (.int x6)] L → KF l { frames := 3, cells := 0, slots := 0, locals := 69 } 7 G ad (EM G ad MM) (QP PostV G ad (EM G ad MM)) X (f_X7_putOne_47 n x2 x4 x5 x6 M) L 47 [] M := by
  intro n
  induction n with
  | zero =>
    intro x2 x4 x5 x6 M L hL
    exact KF.none'
  | succ n ih =>
    intro x2 x4 x5 x6 M L hL
    rw [f_X7_putOne_47]
    refine KF.locals (lsub_le hL) ?_
    refine k_iload hX rfl dX7_putOne_47 ?_
    refine k_aload_n hX (i := 0) rfl rfl dX7_putOne_49 ?_
    refine k_get hX io_218 fl_X7_84 rfl dX7_putOne_50 ?_
    refine k_icmp_ge (tgt := 115) hX dX7_putOne_53 (by decide) (fun b1 => ?_) (fun b1 => ?_)
    · refine k_iload hX rfl dX7_putOne_115 ?_
      refine k_if_eq (tgt := 121) hX dX7_putOne_117 (by decide) (fun b2 => ?_) (fun b2 => ?_)
      · exact w_X7_putOne_121 hX fuelN x2 x4 M ⟨rfl, rfl, rfl, trivial⟩
      exact k_vret hX dX7_putOne_120
    refine k_iload hX rfl dX7_putOne_56 ?_
    refine k_if_ne (tgt := 72) hX dX7_putOne_58 (by decide) (fun b3 => ?_) (fun b3 => ?_)
    · exact w_X7_putOne_72 hX ih x2 x4 x6 M ⟨rfl, rfl, rfl, rfl, trivial⟩
    refine k_aload_n hX (i := 0) rfl rfl dX7_putOne_61 ?_
    refine k_get hX io_218 fl_X7_46 rfl dX7_putOne_62 ?_
    refine k_iload hX rfl dX7_putOne_65 ?_
    refine k_ald hX ia_230 dX7_putOne_67 (fun v4 => ?_)
    refine k_iload_n hX (i := 2) rfl rfl dX7_putOne_68 ?_
    refine k_icmp_ne (tgt := 76) hX dX7_putOne_69 (by decide) (fun b5 => ?_) (fun b5 => ?_)
    · refine k_iconst (v := (nI 0)) hX rfl dX7_putOne_76 ?_
      exact w_X7_putOne_77 hX ih x2 x4 x6 (nI 0) M ⟨rfl, rfl, rfl, rfl, trivial⟩
    exact w_X7_putOne_72 hX ih x2 x4 x6 M ⟨rfl, rfl, rfl, rfl, trivial⟩
set_option maxHeartbeats 4000000 in
set_option maxRecDepth 100000 in
theorem w_X7_putOne_10 {l : Launch} {G : GL} {ad : Nat → Nat} {MM : Mem} {X : CT} (hX : Cx l { frames := 3, cells := 0, slots := 0, locals := 69 } cX7_putOne RX7 7 none G ad X) : ∀ (x2 : Int32) (s0 : Int32) (M : Mem) {L : List (Option Value)}, lsub [some (.ref (ad 218)), none, some (.int x2), none, none, none, none] L → KF l { frames := 3, cells := 0, slots := 0, locals := 69 } 7 G ad (EM G ad MM) (QP PostV G ad (EM G ad MM)) X (f_X7_putOne_10 x2 s0 M) L 10 [.int s0] M := by
  intro x2 s0 M L hL
  unfold f_X7_putOne_10
  refine KF.locals (lsub_le hL) ?_
  refine k_istore_n (L' := [some (.ref (ad 218)), none, some (.int x2), some (.int s0), none, none, none]) hX (i := 3) rfl (by decide) rfl dX7_putOne_10 ?_
  refine k_iload_n hX (i := 2) rfl rfl dX7_putOne_11 ?_
  refine k_iconst (v := (nI 2)) hX rfl dX7_putOne_12 ?_
  refine k_icmp_ge (tgt := 38) hX dX7_putOne_13 (by decide) (fun b1 => ?_) (fun b1 => ?_)
  · refine k_iconst (v := (nI 0)) hX rfl dX7_putOne_38 ?_
    refine k_istore (L' := [some (.ref (ad 218)), none, some (.int x2), some (.int s0), some (.int (nI 0)), none, none]) hX (by decide) rfl dX7_putOne_39 ?_
    refine k_iconst (v := (nI 0)) hX rfl dX7_putOne_41 ?_
    refine k_istore (L' := [some (.ref (ad 218)), none, some (.int x2), some (.int s0), some (.int (nI 0)), some (.int (nI 0)), none]) hX (by decide) rfl dX7_putOne_42 ?_
    refine k_iconst (v := (nI 0)) hX rfl dX7_putOne_44 ?_
    refine k_istore (L' := [some (.ref (ad 218)), none, some (.int x2), some (.int s0), some (.int (nI 0)), some (.int (nI 0)), some (.int (nI 0))]) hX (by decide) rfl dX7_putOne_45 ?_
    exact w_X7_putOne_47 hX fuelN x2 (nI 0) (nI 0) (nI 0) M ⟨rfl, rfl, rfl, rfl, rfl, trivial⟩
  refine k_aload_n hX (i := 0) rfl rfl dX7_putOne_16 ?_
  refine k_aload_n hX (i := 0) rfl rfl dX7_putOne_17 ?_
  refine k_get hX io_218 fl_X7_104 rfl dX7_putOne_18 ?_
  refine k_if_ne (tgt := 29) hX dX7_putOne_21 (by decide) (fun b2 => ?_) (fun b2 => ?_)
  · exact w_X7_putOne_29 hX M trivial
  refine k_iload_n hX (i := 2) rfl rfl dX7_putOne_24 ?_
  refine k_iload_n hX (i := 3) rfl rfl dX7_putOne_25 ?_
  refine k_icmp_eq (tgt := 33) hX dX7_putOne_26 (by decide) (fun b3 => ?_) (fun b3 => ?_)
  · refine k_iconst (v := (nI 0)) hX rfl dX7_putOne_33 ?_
    exact w_X7_putOne_34 hX (nI 0) M trivial
  exact w_X7_putOne_29 hX M trivial
set_option maxHeartbeats 4000000 in
set_option maxRecDepth 100000 in
theorem w_X7_putOne {l : Launch} {G : GL} {ad : Nat → Nat} {MM : Mem} {X : CT} (hX : Cx l { frames := 3, cells := 0, slots := 0, locals := 69 } cX7_putOne RX7 7 none G ad X) {p1 : Int32} {p2 : Int32} {M : Mem} : KF l { frames := 3, cells := 0, slots := 0, locals := 69 } 7 G ad (EM G ad MM) (QP PostV G ad (EM G ad MM)) X (f_X7_putOne p1 p2 M) [some (.ref (ad 218)), some (.int p1), some (.int p2), none, none, none, none] 0 [] M := by
  unfold f_X7_putOne
  refine k_iload_n hX (i := 1) rfl rfl dX7_putOne_0 ?_
  refine k_iconst (v := (nI 5)) hX rfl dX7_putOne_1 ?_
  refine k_icmp_ne (tgt := 9) hX dX7_putOne_2 (by decide) (fun b1 => ?_) (fun b1 => ?_)
  · refine k_iconst (v := (nI 0)) hX rfl dX7_putOne_9 ?_
    exact w_X7_putOne_10 hX p2 (nI 0) M ⟨rfl, rfl, trivial⟩
  refine k_iconst (v := (nI 1)) hX rfl dX7_putOne_5 ?_
  refine k_goto (tgt := 10) hX dX7_putOne_6 (by decide) ?_
  exact w_X7_putOne_10 hX p2 (nI 1) M ⟨rfl, rfl, trivial⟩
set_option maxRecDepth 100000 in
theorem m_X7_putOne {l : Launch} {G : GL} {ad : Nat → Nat} {MM : Mem} (hAd : AdOK G ad) {p1 : Int32} {p2 : Int32} {M : Mem} {r : Rv} (h : f_X7_putOne p1 p2 M = some r) : Ct PostV l G ad (EM G ad MM) yX7_putOne cX7_putOne 7 none 3 69 [.ref (ad 218), .int p1, .int p2] M r := ct_of' hAd (by decide +kernel) (List.forall_mem_cons.mpr ⟨rfl, (List.forall_mem_cons.mpr ⟨rfl, (List.forall_mem_cons.mpr ⟨rfl, (fun _ h => absurd h List.not_mem_nil)⟩)⟩)⟩) (Nat.le_of_ble_eq_true rfl) (L := [some (.ref (ad 218)), some (.int p1), some (.int p2), none, none, none, none]) rfl (fun _ hX => w_X7_putOne hX) h
set_option maxHeartbeats 4000000 in
set_option maxRecDepth 100000 in
theorem w_X7_putIn_61 {l : Launch} {G : GL} {ad : Nat → Nat} {MM : Mem} {X : CT} (hX : Cx l { frames := 4, cells := 0, slots := 0, locals := 95 } cX7_putIn RX7 4 none G ad X) : ∀ (M : Mem) {L : List (Option Value)}, lsub [none, none, none, none] L → KF l { frames := 4, cells := 0, slots := 0, locals := 95 } 4 G ad (EM G ad MM) (QP PostV G ad (EM G ad MM)) X (f_X7_putIn_61 M) L 61 [] M := by
  intro M L hL
  unfold f_X7_putIn_61
  refine KF.locals (lsub_le hL) ?_
  exact k_vret hX dX7_putIn_61
set_option maxHeartbeats 4000000 in
set_option maxRecDepth 100000 in
theorem w_X7_putIn_18 {l : Launch} {G : GL} {ad : Nat → Nat} {MM : Mem} {X : CT} (hX : Cx l { frames := 4, cells := 0, slots := 0, locals := 95 } cX7_putIn RX7 4 none G ad X) : ∀ (n : Nat), ∀ (x1 : Int32) (x2 : Int32) (x3 : Int32) (M : Mem) {L : List (Option Value)}, lsub [some (.ref (ad 218)), some (.int x1), some (.int x2), some (.int x3)] L → KF l { frames := 4, cells := 0, slots := 0, locals := 95 } 4 G ad (EM G ad MM) (QP PostV G ad (EM G ad MM)) X (f_X7_putIn_18 n x1 x2 x3 M) L 18 [] M := by
  intro n
  induction n with
  | zero =>
    intro x1 x2 x3 M L hL
    exact KF.none'
  | succ n ih =>
    intro x1 x2 x3 M L hL
    rw [f_X7_putIn_18]
    refine KF.locals (lsub_le hL) ?_
    refine k_iload_n hX (i := 3) rfl rfl dX7_putIn_18 ?_
    refine k_aload_n hX (i := 0) rfl rfl dX7_putIn_19 ?_
    refine k_get hX io_218 fl_X7_26 rfl dX7_putIn_20 ?_
    refine k_iload_n hX (i := 2) rfl rfl dX7_putIn_23 ?_
    refine k_ald hX ia_224 dX7_putIn_24 (fun v1 => ?_)
    refine k_icmp_ge (tgt := 52) hX dX7_putIn_25 (by decide) (fun b2 => ?_) (fun b2 => ?_)
    · refine k_goto (tgt := 61) hX dX7_putIn_52 (by decide) ?_
      exact w_X7_putIn_61 hX M trivial
    refine k_aload_n hX (i := 0) rfl rfl dX7_putIn_28 ?_
    refine k_iload_n hX (i := 1) rfl rfl dX7_putIn_29 ?_
    refine k_aload_n hX (i := 0) rfl rfl dX7_putIn_30 ?_
    refine k_get hX io_218 fl_X7_43 rfl dX7_putIn_31 ?_
    refine k_aload_n hX (i := 0) rfl rfl dX7_putIn_34 ?_
    refine k_get hX io_218 fl_X7_23 rfl dX7_putIn_35 ?_
    refine k_iload_n hX (i := 2) rfl rfl dX7_putIn_38 ?_
    refine k_ald hX ia_223 dX7_putIn_39 (fun v3 => ?_)
    refine k_iload_n hX (i := 3) rfl rfl dX7_putIn_40 ?_
    refine k_iadd hX dX7_putIn_41 ?_
    refine k_ald hX ia_229 dX7_putIn_42 (fun v4 => ?_)
    refine k_callVV (vs := [.int x1, .int v4]) hX (fun _ h9 => m_X7_putOne hX.2.2.2.2.2.2.1  h9) io_218 rfl ml_X7_114 ⟨Nat.le_of_ble_eq_true rfl, Nat.le_of_ble_eq_true rfl⟩ rfl rfl (Nat.le_of_ble_eq_true rfl) dX7_putIn_43 (fun q5 => ?_)
    refine k_iinc (v := x3 + nI 1) (L' := [some (.ref (ad 218)), some (.int x1), some (.int x2), some (.int (x3 + nI 1))]) hX (i := 3) rfl rfl (by decide) rfl dX7_putIn_46 ?_
    refine k_goto (tgt := 18) hX dX7_putIn_49 (by decide) ?_
    exact ih x1 x2 (x3 + nI 1) q5.2 ⟨rfl, rfl, rfl, rfl, trivial⟩
set_option maxHeartbeats 4000000 in
set_option maxRecDepth 100000 in
theorem w_X7_putIn_55 {l : Launch} {G : GL} {ad : Nat → Nat} {MM : Mem} {X : CT} (hX : Cx l { frames := 4, cells := 0, slots := 0, locals := 95 } cX7_putIn RX7 4 none G ad X) : ∀ (x1 : Int32) (x2 : Int32) (M : Mem) {L : List (Option Value)}, lsub [some (.ref (ad 218)), some (.int x1), some (.int x2), none] L → KF l { frames := 4, cells := 0, slots := 0, locals := 95 } 4 G ad (EM G ad MM) (QP PostV G ad (EM G ad MM)) X (f_X7_putIn_55 x1 x2 M) L 55 [] M := by
  intro x1 x2 M L hL
  unfold f_X7_putIn_55
  refine KF.locals (lsub_le hL) ?_
  refine k_aload_n hX (i := 0) rfl rfl dX7_putIn_55 ?_
  refine k_iload_n hX (i := 1) rfl rfl dX7_putIn_56 ?_
  refine k_iload_n hX (i := 2) rfl rfl dX7_putIn_57 ?_
  refine k_callVV (vs := [.int x1, .int x2]) hX (fun _ h9 => m_X7_putOne hX.2.2.2.2.2.2.1  h9) io_218 rfl ml_X7_114 ⟨Nat.le_of_ble_eq_true rfl, Nat.le_of_ble_eq_true rfl⟩ rfl rfl (Nat.le_of_ble_eq_true rfl) dX7_putIn_58 (fun q1 => ?_)
  exact w_X7_putIn_61 hX q1.2 trivial
set_option maxHeartbeats 4000000 in
set_option maxRecDepth 100000 in
theorem w_X7_putIn {l : Launch} {G : GL} {ad : Nat → Nat} {MM : Mem} {X : CT} (hX : Cx l { frames := 4, cells := 0, slots := 0, locals := 95 } cX7_putIn RX7 4 none G ad X) {p1 : Int32} {p2 : Int32} {M : Mem} : KF l { frames := 4, cells := 0, slots := 0, locals := 95 } 4 G ad (EM G ad MM) (QP PostV G ad (EM G ad MM)) X (f_X7_putIn p1 p2 M) [some (.ref (ad 218)), some (.int p1), some (.int p2), none] 0 [] M := by
  unfold f_X7_putIn
  refine k_iload_n hX (i := 2) rfl rfl dX7_putIn_0 ?_
  refine k_bipush (v := (nI 16)) hX rfl dX7_putIn_1 ?_
  refine k_icmp_lt (tgt := 55) hX dX7_putIn_3 (by decide) (fun b1 => ?_) (fun b1 => ?_)
  · exact w_X7_putIn_55 hX p1 p2 M ⟨rfl, rfl, rfl, trivial⟩
  refine k_aload_n hX (i := 0) rfl rfl dX7_putIn_6 ?_
  refine k_get hX io_218 fl_X7_20 rfl dX7_putIn_7 ?_
  refine k_iload_n hX (i := 2) rfl rfl dX7_putIn_10 ?_
  refine k_ald hX ia_222 dX7_putIn_11 (fun v2 => ?_)
  refine k_iload_n hX (i := 1) rfl rfl dX7_putIn_12 ?_
  refine k_icmp_ne (tgt := 55) hX dX7_putIn_13 (by decide) (fun b3 => ?_) (fun b3 => ?_)
  · exact w_X7_putIn_55 hX p1 p2 M ⟨rfl, rfl, rfl, trivial⟩
  refine k_iconst (v := (nI 0)) hX rfl dX7_putIn_16 ?_
  refine k_istore_n (L' := [some (.ref (ad 218)), some (.int p1), some (.int p2), some (.int (nI 0))]) hX (i := 3) rfl (by decide) rfl dX7_putIn_17 ?_
  exact w_X7_putIn_18 hX fuelN p1 p2 (nI 0) M ⟨rfl, rfl, rfl, rfl, trivial⟩
set_option maxRecDepth 100000 in
theorem m_X7_putIn {l : Launch} {G : GL} {ad : Nat → Nat} {MM : Mem} (hAd : AdOK G ad) {p1 : Int32} {p2 : Int32} {M : Mem} {r : Rv} (h : f_X7_putIn p1 p2 M = some r) : Ct PostV l G ad (EM G ad MM) yX7_putIn cX7_putIn 4 none 4 95 [.ref (ad 218), .int p1, .int p2] M r := ct_of' hAd (by decide +kernel) (List.forall_mem_cons.mpr ⟨rfl, (List.forall_mem_cons.mpr ⟨rfl, (List.forall_mem_cons.mpr ⟨rfl, (fun _ h => absurd h List.not_mem_nil)⟩)⟩)⟩) (Nat.le_of_ble_eq_true rfl) (L := [some (.ref (ad 218)), some (.int p1), some (.int p2), none]) rfl (fun _ hX => w_X7_putIn hX) h
set_option maxHeartbeats 4000000 in
set_option maxRecDepth 100000 in
theorem w_X7_endPut_57 {l : Launch} {G : GL} {ad : Nat → Nat} {MM : Mem} {X : CT} (hX : Cx l { frames := 2, cells := 0, slots := 0, locals := 46 } cX7_endPut RX7 3 (some .int) G ad X) : ∀ (s0 : Int32) (M : Mem) {L : List (Option Value)}, lsub [none, none, none] L → KF l { frames := 2, cells := 0, slots := 0, locals := 46 } 3 G ad (EM G ad MM) (QP PostI G ad (EM G ad MM)) X (f_X7_endPut_57 s0 M) L 57 [.int s0] M := by
  intro s0 M L hL
  unfold f_X7_endPut_57
  refine KF.locals (lsub_le hL) ?_
  exact k_iret hX dX7_endPut_57
set_option maxHeartbeats 4000000 in
set_option maxRecDepth 100000 in
theorem w_X7_endPut_10 {l : Launch} {G : GL} {ad : Nat → Nat} {MM : Mem} {X : CT} (hX : Cx l { frames := 2, cells := 0, slots := 0, locals := 46 } cX7_endPut RX7 3 (some .int) G ad X) : ∀ (x1 : Int32) (s0 : Int32) (M : Mem) {L : List (Option Value)}, lsub [some (.ref (ad 218)), some (.int x1), none] L → KF l { frames := 2, cells := 0, slots := 0, locals := 46 } 3 G ad (EM G ad MM) (QP PostI G ad (EM G ad MM)) X (f_X7_endPut_10 x1 s0 M) L 10 [.int s0] M := by
  intro x1 s0 M L hL
  unfold f_X7_endPut_10
  refine KF.locals (lsub_le hL) ?_
  refine k_istore_n (L' := [some (.ref (ad 218)), some (.int x1), some (.int s0)]) hX (i := 2) rfl (by decide) rfl dX7_endPut_10 ?_
  refine k_aload_n hX (i := 0) rfl rfl dX7_endPut_11 ?_
  refine k_get hX io_218 fl_X7_104 rfl dX7_endPut_12 ?_
  refine k_if_eq (tgt := 24) hX dX7_endPut_15 (by decide) (fun b1 => ?_) (fun b1 => ?_)
  · refine k_aload_n hX (i := 0) rfl rfl dX7_endPut_24 ?_
    refine k_get hX io_218 fl_X7_84 rfl dX7_endPut_25 ?_
    refine k_if_ne (tgt := 35) hX dX7_endPut_28 (by decide) (fun b2 => ?_) (fun b2 => ?_)
    · refine k_aload_n hX (i := 0) rfl rfl dX7_endPut_35 ?_
      refine k_get hX io_218 fl_X7_84 rfl dX7_endPut_36 ?_
      refine k_iconst (v := (nI 1)) hX rfl dX7_endPut_39 ?_
      refine k_icmp_ne (tgt := 52) hX dX7_endPut_40 (by decide) (fun b3 => ?_) (fun b3 => ?_)
      · refine k_aload_n hX (i := 0) rfl rfl dX7_endPut_52 ?_
        refine k_iload_n hX (i := 1) rfl rfl dX7_endPut_53 ?_
        refine k_callVI (vs := [.int x1]) hX (fun _ h9 => m_X7_makeList hX.2.2.2.2.2.2.1  h9) io_218 rfl ml_X7_118 ⟨Nat.le_of_ble_eq_true rfl, Nat.le_of_ble_eq_true rfl⟩ rfl rfl (Nat.le_of_ble_eq_true rfl) dX7_endPut_54 (fun q4 => ?_)
        exact w_X7_endPut_57 hX q4.1 q4.2 trivial
      refine k_aload_n hX (i := 0) rfl rfl dX7_endPut_43 ?_
      refine k_get hX io_218 fl_X7_46 rfl dX7_endPut_44 ?_
      refine k_iconst (v := (nI 0)) hX rfl dX7_endPut_47 ?_
      refine k_ald hX ia_230 dX7_endPut_48 (fun v5 => ?_)
      refine k_goto (tgt := 57) hX dX7_endPut_49 (by decide) ?_
      exact w_X7_endPut_57 hX v5 M trivial
    refine k_iload_n hX (i := 2) rfl rfl dX7_endPut_31 ?_
    refine k_goto (tgt := 57) hX dX7_endPut_32 (by decide) ?_
    exact w_X7_endPut_57 hX s0 M trivial
  refine k_iconst (v := (nI 1)) hX rfl dX7_endPut_18 ?_
  refine k_iload_n hX (i := 2) rfl rfl dX7_endPut_19 ?_
  refine k_isub hX dX7_endPut_20 ?_
  refine k_goto (tgt := 57) hX dX7_endPut_21 (by decide) ?_
  exact w_X7_endPut_57 hX ((nI 1) - s0) M trivial
set_option maxHeartbeats 4000000 in
set_option maxRecDepth 100000 in
theorem w_X7_endPut {l : Launch} {G : GL} {ad : Nat → Nat} {MM : Mem} {X : CT} (hX : Cx l { frames := 2, cells := 0, slots := 0, locals := 46 } cX7_endPut RX7 3 (some .int) G ad X) {p1 : Int32} {M : Mem} : KF l { frames := 2, cells := 0, slots := 0, locals := 46 } 3 G ad (EM G ad MM) (QP PostI G ad (EM G ad MM)) X (f_X7_endPut p1 M) [some (.ref (ad 218)), some (.int p1), none] 0 [] M := by
  unfold f_X7_endPut
  refine k_iload_n hX (i := 1) rfl rfl dX7_endPut_0 ?_
  refine k_iconst (v := (nI 5)) hX rfl dX7_endPut_1 ?_
  refine k_icmp_ne (tgt := 9) hX dX7_endPut_2 (by decide) (fun b1 => ?_) (fun b1 => ?_)
  · refine k_iconst (v := (nI 0)) hX rfl dX7_endPut_9 ?_
    exact w_X7_endPut_10 hX p1 (nI 0) M ⟨rfl, rfl, trivial⟩
  refine k_iconst (v := (nI 1)) hX rfl dX7_endPut_5 ?_
  refine k_goto (tgt := 10) hX dX7_endPut_6 (by decide) ?_
  exact w_X7_endPut_10 hX p1 (nI 1) M ⟨rfl, rfl, trivial⟩
set_option maxRecDepth 100000 in
theorem m_X7_endPut {l : Launch} {G : GL} {ad : Nat → Nat} {MM : Mem} (hAd : AdOK G ad) {p1 : Int32} {M : Mem} {r : Rv} (h : f_X7_endPut p1 M = some r) : Ct PostI l G ad (EM G ad MM) yX7_endPut cX7_endPut 3 (some .int) 2 46 [.ref (ad 218), .int p1] M r := ct_of' hAd (by decide +kernel) (List.forall_mem_cons.mpr ⟨rfl, (List.forall_mem_cons.mpr ⟨rfl, (fun _ h => absurd h List.not_mem_nil)⟩)⟩) (Nat.le_of_ble_eq_true rfl) (L := [some (.ref (ad 218)), some (.int p1), none]) rfl (fun _ hX => w_X7_endPut hX) h
set_option maxHeartbeats 4000000 in
set_option maxRecDepth 100000 in
theorem w_X7_both {l : Launch} {G : GL} {ad : Nat → Nat} {MM : Mem} {X : CT} (hX : Cx l { frames := 5, cells := 0, slots := 0, locals := 118 } cX7_both RX7 4 (some .int) G ad X) {p1 : Int32} {p2 : Int32} {p3 : Int32} {M : Mem} : KF l { frames := 5, cells := 0, slots := 0, locals := 118 } 4 G ad (EM G ad MM) (QP PostI G ad (EM G ad MM)) X (f_X7_both p1 p2 p3 M) [some (.ref (ad 218)), some (.int p1), some (.int p2), some (.int p3)] 0 [] M := by
  unfold f_X7_both
  refine k_aload_n hX (i := 0) rfl rfl dX7_both_0 ?_
  refine k_callVV (vs := []) hX (fun _ h9 => m_X7_beginPut hX.2.2.2.2.2.2.1  h9) io_218 rfl ml_X7_121 ⟨Nat.le_of_ble_eq_true rfl, Nat.le_of_ble_eq_true rfl⟩ rfl rfl (Nat.le_of_ble_eq_true rfl) dX7_both_1 (fun q1 => ?_)
  refine k_aload_n hX (i := 0) rfl rfl dX7_both_4 ?_
  refine k_iload_n hX (i := 1) rfl rfl dX7_both_5 ?_
  refine k_iload_n hX (i := 2) rfl rfl dX7_both_6 ?_
  refine k_callVV (vs := [.int p1, .int p2]) hX (fun _ h9 => m_X7_putIn hX.2.2.2.2.2.2.1  h9) io_218 rfl ml_X7_124 ⟨Nat.le_of_ble_eq_true rfl, Nat.le_of_ble_eq_true rfl⟩ rfl rfl (Nat.le_of_ble_eq_true rfl) dX7_both_7 (fun q2 => ?_)
  refine k_aload_n hX (i := 0) rfl rfl dX7_both_10 ?_
  refine k_iload_n hX (i := 1) rfl rfl dX7_both_11 ?_
  refine k_iload_n hX (i := 3) rfl rfl dX7_both_12 ?_
  refine k_callVV (vs := [.int p1, .int p3]) hX (fun _ h9 => m_X7_putIn hX.2.2.2.2.2.2.1  h9) io_218 rfl ml_X7_124 ⟨Nat.le_of_ble_eq_true rfl, Nat.le_of_ble_eq_true rfl⟩ rfl rfl (Nat.le_of_ble_eq_true rfl) dX7_both_13 (fun q3 => ?_)
  refine k_aload_n hX (i := 0) rfl rfl dX7_both_16 ?_
  refine k_iload_n hX (i := 1) rfl rfl dX7_both_17 ?_
  refine k_callVI (vs := [.int p1]) hX (fun _ h9 => m_X7_endPut hX.2.2.2.2.2.2.1  h9) io_218 rfl ml_X7_127 ⟨Nat.le_of_ble_eq_true rfl, Nat.le_of_ble_eq_true rfl⟩ rfl rfl (Nat.le_of_ble_eq_true rfl) dX7_both_18 (fun q4 => ?_)
  exact k_iret hX dX7_both_21
set_option maxRecDepth 100000 in
theorem m_X7_both {l : Launch} {G : GL} {ad : Nat → Nat} {MM : Mem} (hAd : AdOK G ad) {p1 : Int32} {p2 : Int32} {p3 : Int32} {M : Mem} {r : Rv} (h : f_X7_both p1 p2 p3 M = some r) : Ct PostI l G ad (EM G ad MM) yX7_both cX7_both 4 (some .int) 5 118 [.ref (ad 218), .int p1, .int p2, .int p3] M r := ct_of' hAd (by decide +kernel) (List.forall_mem_cons.mpr ⟨rfl, (List.forall_mem_cons.mpr ⟨rfl, (List.forall_mem_cons.mpr ⟨rfl, (List.forall_mem_cons.mpr ⟨rfl, (fun _ h => absurd h List.not_mem_nil)⟩)⟩)⟩)⟩) (Nat.le_of_ble_eq_true rfl) (L := [some (.ref (ad 218)), some (.int p1), some (.int p2), some (.int p3)]) rfl (fun _ hX => w_X7_both hX) h
set_option maxHeartbeats 4000000 in
set_option maxRecDepth 100000 in
theorem w_X7_mark_13 {l : Launch} {G : GL} {ad : Nat → Nat} {MM : Mem} {X : CT} (hX : Cx l { frames := 1, cells := 0, slots := 0, locals := 22 } cX7_mark RX7 4 none G ad X) {k2 : Int32 → Int32 → Mem → Option Rv} (hk2 : ∀ (x1 : Int32) (x2 : Int32) (M : Mem) {L : List (Option Value)}, lsub [some (.ref (ad 218)), some (.int x1), some (.int x2), none] L → KF l { frames := 1, cells := 0, slots := 0, locals := 22 } 4 G ad (EM G ad MM) (QP PostV G ad (EM G ad MM)) X (k2 x1 x2 M) L 2 [] M) : ∀ (x1 : Int32) (x2 : Int32) (M : Mem) {L : List (Option Value)}, lsub [some (.ref (ad 218)), some (.int x1), some (.int x2), none] L → KF l { frames := 1, cells := 0, slots := 0, locals := 22 } 4 G ad (EM G ad MM) (QP PostV G ad (EM G ad MM)) X (f_X7_mark_13 k2 x1 x2 M) L 13 [] M := by
  intro x1 x2 M L hL
  unfold f_X7_mark_13
  refine KF.locals (lsub_le hL) ?_
  refine k_aload_n hX (i := 0) rfl rfl dX7_mark_13 ?_
  refine k_get hX io_218 fl_X7_38 rfl dX7_mark_14 ?_
  refine k_iload_n hX (i := 2) rfl rfl dX7_mark_17 ?_
  refine k_iconst (v := (nI 0)) hX rfl dX7_mark_18 ?_
  refine k_zast hX locM ia_228 dX7_mark_19 (fun M1 => ?_)
  refine k_iinc (v := x2 + nI 1) (L' := [some (.ref (ad 218)), some (.int x1), some (.int (x2 + nI 1)), none]) hX (i := 2) rfl rfl (by decide) rfl dX7_mark_20 ?_
  refine k_goto (tgt := 2) hX dX7_mark_23 (by decide) ?_
  exact hk2 x1 (x2 + nI 1) M1 ⟨rfl, rfl, rfl, trivial⟩
set_option maxHeartbeats 4000000 in
set_option maxRecDepth 100000 in
theorem w_X7_mark_79 {l : Launch} {G : GL} {ad : Nat → Nat} {MM : Mem} {X : CT} (hX : Cx l { frames := 1, cells := 0, slots := 0, locals := 22 } cX7_mark RX7 4 none G ad X) {k35 : Int32 → Mem → Option Rv} (hk35 : ∀ (x2 : Int32) (M : Mem) {L : List (Option Value)}, lsub [some (.ref (ad 218)), none, some (.int x2), none] L → KF l { frames := 1, cells := 0, slots := 0, locals := 22 } 4 G ad (EM G ad MM) (QP PostV G ad (EM G ad MM)) X (k35 x2 M) L 35 [] M) : ∀ (x2 : Int32) (M : Mem) {L : List (Option Value)}, lsub [some (.ref (ad 218)), none, some (.int x2), none] L → KF l { frames := 1, cells := 0, slots := 0, locals := 22 } 4 G ad (EM G ad MM) (QP PostV G ad (EM G ad MM)) X (f_X7_mark_79 k35 x2 M) L 79 [] M := by
  intro x2 M L hL
  unfold f_X7_mark_79
  refine KF.locals (lsub_le hL) ?_
  refine k_iinc (v := x2 - nI 1) (L' := [some (.ref (ad 218)), none, some (.int (x2 - nI 1)), none]) hX (i := 2) rfl (iinc_neg _ _ rfl) (by decide) rfl dX7_mark_79 ?_
  refine k_goto (tgt := 35) hX dX7_mark_82 (by decide) ?_
  exact hk35 (x2 - nI 1) M ⟨rfl, rfl, trivial⟩
set_option maxHeartbeats 4000000 in
set_option maxRecDepth 100000 in
theorem w_X7_mark_43 {l : Launch} {G : GL} {ad : Nat → Nat} {MM : Mem} {X : CT} (hX : Cx l { frames := 1, cells := 0, slots := 0, locals := 22 } cX7_mark RX7 4 none G ad X) {k35 : Int32 → Mem → Option Rv} (hk35 : ∀ (x2 : Int32) (M : Mem) {L : List (Option Value)}, lsub [some (.ref (ad 218)), none, some (.int x2), none] L → KF l { frames := 1, cells := 0, slots := 0, locals := 22 } 4 G ad (EM G ad MM) (QP PostV G ad (EM G ad MM)) X (k35 x2 M) L 35 [] M) : ∀ (n : Nat), ∀ (x2 : Int32) (x3 : Int32) (M : Mem) {L : List (Option Value)}, lsub [some (.ref (ad 218)), none, some (.int x2), some (.int x3)] L → KF l { frames := 1, cells := 0, slots := 0, locals := 22 } 4 G ad (EM G ad MM) (QP PostV G ad (EM G ad MM)) X (f_X7_mark_43 k35 n x2 x3 M) L 43 [] M := by
  intro n
  induction n with
  | zero =>
    intro x2 x3 M L hL
    exact KF.none'
  | succ n ih =>
    intro x2 x3 M L hL
    rw [f_X7_mark_43]
    refine KF.locals (lsub_le hL) ?_
    refine k_iload_n hX (i := 3) rfl rfl dX7_mark_43 ?_
    refine k_aload_n hX (i := 0) rfl rfl dX7_mark_44 ?_
    refine k_iload_n hX (i := 2) rfl rfl dX7_mark_45 ?_
    refine k_callVI (vs := [.int x2]) hX (fun _ h9 => m_X7_childMany hX.2.2.2.2.2.2.1  h9) io_218 rfl ml_X7_91 ⟨Nat.le_of_ble_eq_true rfl, Nat.le_of_ble_eq_true rfl⟩ rfl rfl (Nat.le_of_ble_eq_true rfl) dX7_mark_46 (fun q1 => ?_)
    refine k_icmp_ge (tgt := 79) hX dX7_mark_49 (by decide) (fun b2 => ?_) (fun b2 => ?_)
    · exact w_X7_mark_79 hX hk35 x2 q1.2 ⟨rfl, rfl, trivial⟩
    refine k_aload_n hX (i := 0) rfl rfl dX7_mark_52 ?_
    refine k_get hX io_218 fl_X7_38 rfl dX7_mark_53 ?_
    refine k_iload_n hX (i := 2) rfl rfl dX7_mark_56 ?_
    refine k_zald hX ia_228 dX7_mark_57 (fun v3 => ?_)
    refine k_if_eq (tgt := 79) hX dX7_mark_58 (by decide) (fun b4 => ?_) (fun b4 => ?_)
    · exact w_X7_mark_79 hX hk35 x2 q1.2 ⟨rfl, rfl, trivial⟩
    refine k_aload_n hX (i := 0) rfl rfl dX7_mark_61 ?_
    refine k_get hX io_218 fl_X7_38 rfl dX7_mark_62 ?_
    refine k_aload_n hX (i := 0) rfl rfl dX7_mark_65 ?_
    refine k_iload_n hX (i := 2) rfl rfl dX7_mark_66 ?_
    refine k_iload_n hX (i := 3) rfl rfl dX7_mark_67 ?_
    refine k_callVI (vs := [.int x2, .int x3]) hX (fun _ h9 => m_X7_child hX.2.2.2.2.2.2.1  h9) io_218 rfl ml_X7_97 ⟨Nat.le_of_ble_eq_true rfl, Nat.le_of_ble_eq_true rfl⟩ rfl rfl (Nat.le_of_ble_eq_true rfl) dX7_mark_68 (fun q5 => ?_)
    refine k_iconst (v := (nI 1)) hX rfl dX7_mark_71 ?_
    refine k_zast hX locM ia_228 dX7_mark_72 (fun M6 => ?_)
    refine k_iinc (v := x3 + nI 1) (L' := [some (.ref (ad 218)), none, some (.int x2), some (.int (x3 + nI 1))]) hX (i := 3) rfl rfl (by decide) rfl dX7_mark_73 ?_
    refine k_goto (tgt := 43) hX dX7_mark_76 (by decide) ?_
    exact ih x2 (x3 + nI 1) M6 ⟨rfl, rfl, rfl, trivial⟩
set_option maxHeartbeats 4000000 in
set_option maxRecDepth 100000 in
theorem w_X7_mark_35 {l : Launch} {G : GL} {ad : Nat → Nat} {MM : Mem} {X : CT} (hX : Cx l { frames := 1, cells := 0, slots := 0, locals := 22 } cX7_mark RX7 4 none G ad X) : ∀ (n : Nat), ∀ (x2 : Int32) (M : Mem) {L : List (Option Value)}, lsub [some (.ref (ad 218)), none, some (.int x2), none] L → KF l { frames := 1, cells := 0, slots := 0, locals := 22 } 4 G ad (EM G ad MM) (QP PostV G ad (EM G ad MM)) X (f_X7_mark_35 n x2 M) L 35 [] M := by
  intro n
  induction n with
  | zero =>
    intro x2 M L hL
    exact KF.none'
  | succ n ih =>
    intro x2 M L hL
    rw [f_X7_mark_35]
    refine KF.locals (lsub_le hL) ?_
    refine k_iload_n hX (i := 2) rfl rfl dX7_mark_35 ?_
    refine k_bipush (v := (nI 16)) hX rfl dX7_mark_36 ?_
    refine k_icmp_lt (tgt := 85) hX dX7_mark_38 (by decide) (fun b1 => ?_) (fun b1 => ?_)
    · exact k_vret hX dX7_mark_85
    refine k_iconst (v := (nI 0)) hX rfl dX7_mark_41 ?_
    refine k_istore_n (L' := [some (.ref (ad 218)), none, some (.int x2), some (.int (nI 0))]) hX (i := 3) rfl (by decide) rfl dX7_mark_42 ?_
    exact w_X7_mark_43 hX ih fuelN x2 (nI 0) M ⟨rfl, rfl, rfl, trivial⟩
set_option maxHeartbeats 4000000 in
set_option maxRecDepth 100000 in
theorem w_X7_mark_2 {l : Launch} {G : GL} {ad : Nat → Nat} {MM : Mem} {X : CT} (hX : Cx l { frames := 1, cells := 0, slots := 0, locals := 22 } cX7_mark RX7 4 none G ad X) : ∀ (n : Nat), ∀ (x1 : Int32) (x2 : Int32) (M : Mem) {L : List (Option Value)}, lsub [some (.ref (ad 218)), some (.int x1), some (.int x2), none] L → KF l { frames := 1, cells := 0, slots := 0, locals := 22 } 4 G ad (EM G ad MM) (QP PostV G ad (EM G ad MM)) X (f_X7_mark_2 n x1 x2 M) L 2 [] M := by
  intro n
  induction n with
  | zero =>
    intro x1 x2 M L hL
    exact KF.none'
  | succ n ih =>
    intro x1 x2 M L hL
    rw [f_X7_mark_2]
    refine KF.locals (lsub_le hL) ?_
    refine k_iload_n hX (i := 2) rfl rfl dX7_mark_2 ?_
    refine k_iload_n hX (i := 1) rfl rfl dX7_mark_3 ?_
    refine k_icmp_le (tgt := 13) hX dX7_mark_4 (by decide) (fun b1 => ?_) (fun b1 => ?_)
    · exact w_X7_mark_13 hX ih x1 x2 M ⟨rfl, rfl, rfl, trivial⟩
    refine k_iload_n hX (i := 2) rfl rfl dX7_mark_7 ?_
    refine k_bipush (v := (nI 16)) hX rfl dX7_mark_8 ?_
    refine k_icmp_ge (tgt := 26) hX dX7_mark_10 (by decide) (fun b2 => ?_) (fun b2 => ?_)
    · refine k_aload_n hX (i := 0) rfl rfl dX7_mark_26 ?_
      refine k_get hX io_218 fl_X7_38 rfl dX7_mark_27 ?_
      refine k_iload_n hX (i := 1) rfl rfl dX7_mark_30 ?_
      refine k_iconst (v := (nI 1)) hX rfl dX7_mark_31 ?_
      refine k_zast hX locM ia_228 dX7_mark_32 (fun M3 => ?_)
      refine k_iload_n hX (i := 1) rfl rfl dX7_mark_33 ?_
      refine k_istore_n (L' := [some (.ref (ad 218)), some (.int x1), some (.int x1), none]) hX (i := 2) rfl (by decide) rfl dX7_mark_34 ?_
      exact w_X7_mark_35 hX fuelN x1 M3 ⟨rfl, rfl, trivial⟩
    exact w_X7_mark_13 hX ih x1 x2 M ⟨rfl, rfl, rfl, trivial⟩
set_option maxHeartbeats 4000000 in
set_option maxRecDepth 100000 in
theorem w_X7_mark {l : Launch} {G : GL} {ad : Nat → Nat} {MM : Mem} {X : CT} (hX : Cx l { frames := 1, cells := 0, slots := 0, locals := 22 } cX7_mark RX7 4 none G ad X) {p1 : Int32} {M : Mem} : KF l { frames := 1, cells := 0, slots := 0, locals := 22 } 4 G ad (EM G ad MM) (QP PostV G ad (EM G ad MM)) X (f_X7_mark p1 M) [some (.ref (ad 218)), some (.int p1), none, none] 0 [] M := by
  unfold f_X7_mark
  refine k_iconst (v := (nI 0)) hX rfl dX7_mark_0 ?_
  refine k_istore_n (L' := [some (.ref (ad 218)), some (.int p1), some (.int (nI 0)), none]) hX (i := 2) rfl (by decide) rfl dX7_mark_1 ?_
  exact w_X7_mark_2 hX fuelN p1 (nI 0) M ⟨rfl, rfl, rfl, trivial⟩
set_option maxRecDepth 100000 in
theorem m_X7_mark {l : Launch} {G : GL} {ad : Nat → Nat} {MM : Mem} (hAd : AdOK G ad) {p1 : Int32} {M : Mem} {r : Rv} (h : f_X7_mark p1 M = some r) : Ct PostV l G ad (EM G ad MM) yX7_mark cX7_mark 4 none 1 22 [.ref (ad 218), .int p1] M r := ct_of' hAd (by decide +kernel) (List.forall_mem_cons.mpr ⟨rfl, (List.forall_mem_cons.mpr ⟨rfl, (fun _ h => absurd h List.not_mem_nil)⟩)⟩) (Nat.le_of_ble_eq_true rfl) (L := [some (.ref (ad 218)), some (.int p1), none, none]) rfl (fun _ hX => w_X7_mark hX) h
set_option maxHeartbeats 4000000 in
set_option maxRecDepth 100000 in
theorem w_X7_putAll_6 {l : Launch} {G : GL} {ad : Nat → Nat} {MM : Mem} {X : CT} (hX : Cx l { frames := 5, cells := 0, slots := 0, locals := 118 } cX7_putAll RX7 4 (some .int) G ad X) : ∀ (n : Nat), ∀ (x1 : Int32) (x2 : Int32) (x3 : Int32) (M : Mem) {L : List (Option Value)}, lsub [some (.ref (ad 218)), some (.int x1), some (.int x2), some (.int x3)] L → KF l { frames := 5, cells := 0, slots := 0, locals := 118 } 4 G ad (EM G ad MM) (QP PostI G ad (EM G ad MM)) X (f_X7_putAll_6 n x1 x2 x3 M) L 6 [] M := by
  intro n
  induction n with
  | zero =>
    intro x1 x2 x3 M L hL
    exact KF.none'
  | succ n ih =>
    intro x1 x2 x3 M L hL
    rw [f_X7_putAll_6]
    refine KF.locals (lsub_le hL) ?_
    refine k_iload_n hX (i := 3) rfl rfl dX7_putAll_6 ?_
    refine k_aload_n hX (i := 0) rfl rfl dX7_putAll_7 ?_
    refine k_get hX io_218 fl_X7_26 rfl dX7_putAll_8 ?_
    refine k_iload_n hX (i := 2) rfl rfl dX7_putAll_11 ?_
    refine k_ald hX ia_224 dX7_putAll_12 (fun v1 => ?_)
    refine k_icmp_ge (tgt := 45) hX dX7_putAll_13 (by decide) (fun b2 => ?_) (fun b2 => ?_)
    · refine k_aload_n hX (i := 0) rfl rfl dX7_putAll_45 ?_
      refine k_iload_n hX (i := 1) rfl rfl dX7_putAll_46 ?_
      refine k_callVI (vs := [.int x1]) hX (fun _ h9 => m_X7_endPut hX.2.2.2.2.2.2.1  h9) io_218 rfl ml_X7_127 ⟨Nat.le_of_ble_eq_true rfl, Nat.le_of_ble_eq_true rfl⟩ rfl rfl (Nat.le_of_ble_eq_true rfl) dX7_putAll_47 (fun q3 => ?_)
      exact k_iret hX dX7_putAll_50
    refine k_aload_n hX (i := 0) rfl rfl dX7_putAll_16 ?_
    refine k_iload_n hX (i := 1) rfl rfl dX7_putAll_17 ?_
    refine k_aload_n hX (i := 0) rfl rfl dX7_putAll_18 ?_
    refine k_get hX io_218 fl_X7_35 rfl dX7_putAll_19 ?_
    refine k_aload_n hX (i := 0) rfl rfl dX7_putAll_22 ?_
    refine k_get hX io_218 fl_X7_43 rfl dX7_putAll_23 ?_
    refine k_aload_n hX (i := 0) rfl rfl dX7_putAll_26 ?_
    refine k_get hX io_218 fl_X7_23 rfl dX7_putAll_27 ?_
    refine k_iload_n hX (i := 2) rfl rfl dX7_putAll_30 ?_
    refine k_ald hX ia_223 dX7_putAll_31 (fun v4 => ?_)
    refine k_iload_n hX (i := 3) rfl rfl dX7_putAll_32 ?_
    refine k_iadd hX dX7_putAll_33 ?_
    refine k_ald hX ia_229 dX7_putAll_34 (fun v5 => ?_)
    refine k_ald hX ia_227 dX7_putAll_35 (fun v6 => ?_)
    refine k_callVV (vs := [.int x1, .int v6]) hX (fun _ h9 => m_X7_putIn hX.2.2.2.2.2.2.1  h9) io_218 rfl ml_X7_124 ⟨Nat.le_of_ble_eq_true rfl, Nat.le_of_ble_eq_true rfl⟩ rfl rfl (Nat.le_of_ble_eq_true rfl) dX7_putAll_36 (fun q7 => ?_)
    refine k_iinc (v := x3 + nI 1) (L' := [some (.ref (ad 218)), some (.int x1), some (.int x2), some (.int (x3 + nI 1))]) hX (i := 3) rfl rfl (by decide) rfl dX7_putAll_39 ?_
    refine k_goto (tgt := 6) hX dX7_putAll_42 (by decide) ?_
    exact ih x1 x2 (x3 + nI 1) q7.2 ⟨rfl, rfl, rfl, rfl, trivial⟩
set_option maxHeartbeats 4000000 in
set_option maxRecDepth 100000 in
theorem w_X7_putAll {l : Launch} {G : GL} {ad : Nat → Nat} {MM : Mem} {X : CT} (hX : Cx l { frames := 5, cells := 0, slots := 0, locals := 118 } cX7_putAll RX7 4 (some .int) G ad X) {p1 : Int32} {p2 : Int32} {M : Mem} : KF l { frames := 5, cells := 0, slots := 0, locals := 118 } 4 G ad (EM G ad MM) (QP PostI G ad (EM G ad MM)) X (f_X7_putAll p1 p2 M) [some (.ref (ad 218)), some (.int p1), some (.int p2), none] 0 [] M := by
  unfold f_X7_putAll
  refine k_aload_n hX (i := 0) rfl rfl dX7_putAll_0 ?_
  refine k_callVV (vs := []) hX (fun _ h9 => m_X7_beginPut hX.2.2.2.2.2.2.1  h9) io_218 rfl ml_X7_121 ⟨Nat.le_of_ble_eq_true rfl, Nat.le_of_ble_eq_true rfl⟩ rfl rfl (Nat.le_of_ble_eq_true rfl) dX7_putAll_1 (fun q1 => ?_)
  refine k_iconst (v := (nI 0)) hX rfl dX7_putAll_4 ?_
  refine k_istore_n (L' := [some (.ref (ad 218)), some (.int p1), some (.int p2), some (.int (nI 0))]) hX (i := 3) rfl (by decide) rfl dX7_putAll_5 ?_
  exact w_X7_putAll_6 hX fuelN p1 p2 (nI 0) q1.2 ⟨rfl, rfl, rfl, rfl, trivial⟩
set_option maxRecDepth 100000 in
theorem m_X7_putAll {l : Launch} {G : GL} {ad : Nat → Nat} {MM : Mem} (hAd : AdOK G ad) {p1 : Int32} {p2 : Int32} {M : Mem} {r : Rv} (h : f_X7_putAll p1 p2 M = some r) : Ct PostI l G ad (EM G ad MM) yX7_putAll cX7_putAll 4 (some .int) 5 118 [.ref (ad 218), .int p1, .int p2] M r := ct_of' hAd (by decide +kernel) (List.forall_mem_cons.mpr ⟨rfl, (List.forall_mem_cons.mpr ⟨rfl, (List.forall_mem_cons.mpr ⟨rfl, (fun _ h => absurd h List.not_mem_nil)⟩)⟩)⟩) (Nat.le_of_ble_eq_true rfl) (L := [some (.ref (ad 218)), some (.int p1), some (.int p2), none]) rfl (fun _ hX => w_X7_putAll hX) h
set_option maxHeartbeats 4000000 in
set_option maxRecDepth 100000 in
theorem w_X7_step {l : Launch} {G : GL} {ad : Nat → Nat} {MM : Mem} {X : CT} (hX : Cx l { frames := 6, cells := 0, slots := 0, locals := 141 } cX7_step RX7 2 (some .int) G ad X) {p1 : Int32} {M : Mem} : KF l { frames := 6, cells := 0, slots := 0, locals := 141 } 2 G ad (EM G ad MM) (QP PostI G ad (EM G ad MM)) X (f_X7_step p1 M) [some (.ref (ad 218)), some (.int p1)] 0 [] M := by
  unfold f_X7_step
  refine k_aload_n hX (i := 0) rfl rfl dX7_step_0 ?_
  refine k_get hX io_218 fl_X7_20 rfl dX7_step_1 ?_
  refine k_iload_n hX (i := 1) rfl rfl dX7_step_4 ?_
  refine k_ald hX ia_222 dX7_step_5 (fun v1 => ?_)
  refine KF.ite (fun b2 => ?_) (fun b2 => ?_)
  · refine k_tabIn (tgt := 36) hX b2 dX7_step_6 (by decide) (by decide) rfl (by decide) ?_
    refine k_aload_n hX (i := 0) rfl rfl dX7_step_36 ?_
    refine k_iconst (v := (nI 5)) hX rfl dX7_step_37 ?_
    refine k_iconst (v := (nI 2)) hX rfl dX7_step_38 ?_
    refine k_aload_n hX (i := 0) rfl rfl dX7_step_39 ?_
    refine k_get hX io_218 fl_X7_23 rfl dX7_step_40 ?_
    refine k_iload_n hX (i := 1) rfl rfl dX7_step_43 ?_
    refine k_ald hX ia_223 dX7_step_44 (fun v3 => ?_)
    refine k_callVI (vs := [.int (nI 5), .int (nI 2), .int v3]) hX (fun _ h9 => m_X7_both hX.2.2.2.2.2.2.1  h9) io_218 rfl ml_X7_137 ⟨Nat.le_of_ble_eq_true rfl, Nat.le_of_ble_eq_true rfl⟩ rfl rfl (Nat.le_of_ble_eq_true rfl) dX7_step_45 (fun q4 => ?_)
    exact k_iret hX dX7_step_48
  refine KF.ite (fun b5 => ?_) (fun b5 => ?_)
  · refine k_tabIn (tgt := 49) hX b5 dX7_step_6 (by decide) (by decide) rfl (by decide) ?_
    refine k_aload_n hX (i := 0) rfl rfl dX7_step_49 ?_
    refine k_bipush (v := (nI 6)) hX rfl dX7_step_50 ?_
    refine k_iconst (v := (nI 3)) hX rfl dX7_step_52 ?_
    refine k_aload_n hX (i := 0) rfl rfl dX7_step_53 ?_
    refine k_get hX io_218 fl_X7_23 rfl dX7_step_54 ?_
    refine k_iload_n hX (i := 1) rfl rfl dX7_step_57 ?_
    refine k_ald hX ia_223 dX7_step_58 (fun v6 => ?_)
    refine k_callVI (vs := [.int (nI 6), .int (nI 3), .int v6]) hX (fun _ h9 => m_X7_both hX.2.2.2.2.2.2.1  h9) io_218 rfl ml_X7_137 ⟨Nat.le_of_ble_eq_true rfl, Nat.le_of_ble_eq_true rfl⟩ rfl rfl (Nat.le_of_ble_eq_true rfl) dX7_step_59 (fun q7 => ?_)
    exact k_iret hX dX7_step_62
  refine KF.ite (fun b8 => ?_) (fun b8 => ?_)
  · refine k_tabIn (tgt := 63) hX b8 dX7_step_6 (by decide) (by decide) rfl (by decide) ?_
    refine k_aload_n hX (i := 0) rfl rfl dX7_step_63 ?_
    refine k_bipush (v := (nI 6)) hX rfl dX7_step_64 ?_
    refine k_aload_n hX (i := 0) rfl rfl dX7_step_66 ?_
    refine k_get hX io_218 fl_X7_35 rfl dX7_step_67 ?_
    refine k_aload_n hX (i := 0) rfl rfl dX7_step_70 ?_
    refine k_get hX io_218 fl_X7_26 rfl dX7_step_71 ?_
    refine k_iload_n hX (i := 1) rfl rfl dX7_step_74 ?_
    refine k_ald hX ia_224 dX7_step_75 (fun v9 => ?_)
    refine k_ald hX ia_227 dX7_step_76 (fun v10 => ?_)
    refine k_aload_n hX (i := 0) rfl rfl dX7_step_77 ?_
    refine k_iconst (v := (nI 5)) hX rfl dX7_step_78 ?_
    refine k_aload_n hX (i := 0) rfl rfl dX7_step_79 ?_
    refine k_get hX io_218 fl_X7_35 rfl dX7_step_80 ?_
    refine k_aload_n hX (i := 0) rfl rfl dX7_step_83 ?_
    refine k_get hX io_218 fl_X7_23 rfl dX7_step_84 ?_
    refine k_iload_n hX (i := 1) rfl rfl dX7_step_87 ?_
    refine k_ald hX ia_223 dX7_step_88 (fun v11 => ?_)
    refine k_ald hX ia_227 dX7_step_89 (fun v12 => ?_)
    refine k_iload_n hX (i := 1) rfl rfl dX7_step_90 ?_
    refine k_callVI (vs := [.int (nI 5), .int v12, .int p1]) hX (fun _ h9 => m_X7_both hX.2.2.2.2.2.2.1  h9) io_218 rfl ml_X7_137 ⟨Nat.le_of_ble_eq_true rfl, Nat.le_of_ble_eq_true rfl⟩ rfl rfl (Nat.le_of_ble_eq_true rfl) dX7_step_91 (fun q13 => ?_)
    refine k_callVI (vs := [.int (nI 6), .int v10, .int q13.1]) hX (fun _ h9 => m_X7_both hX.2.2.2.2.2.2.1  h9) io_218 rfl ml_X7_137 ⟨Nat.le_of_ble_eq_true rfl, Nat.le_of_ble_eq_true rfl⟩ rfl rfl (Nat.le_of_ble_eq_true rfl) dX7_step_94 (fun q14 => ?_)
    exact k_iret hX dX7_step_97
  refine KF.ite (fun b15 => ?_) (fun b15 => ?_)
  · refine k_tabIn (tgt := 98) hX b15 dX7_step_6 (by decide) (by decide) rfl (by decide) ?_
    refine k_aload_n hX (i := 0) rfl rfl dX7_step_98 ?_
    refine k_iconst (v := (nI 5)) hX rfl dX7_step_99 ?_
    refine k_aload_n hX (i := 0) rfl rfl dX7_step_100 ?_
    refine k_get hX io_218 fl_X7_35 rfl dX7_step_101 ?_
    refine k_aload_n hX (i := 0) rfl rfl dX7_step_104 ?_
    refine k_get hX io_218 fl_X7_26 rfl dX7_step_105 ?_
    refine k_iload_n hX (i := 1) rfl rfl dX7_step_108 ?_
    refine k_ald hX ia_224 dX7_step_109 (fun v16 => ?_)
    refine k_ald hX ia_227 dX7_step_110 (fun v17 => ?_)
    refine k_aload_n hX (i := 0) rfl rfl dX7_step_111 ?_
    refine k_bipush (v := (nI 6)) hX rfl dX7_step_112 ?_
    refine k_aload_n hX (i := 0) rfl rfl dX7_step_114 ?_
    refine k_get hX io_218 fl_X7_35 rfl dX7_step_115 ?_
    refine k_aload_n hX (i := 0) rfl rfl dX7_step_118 ?_
    refine k_get hX io_218 fl_X7_23 rfl dX7_step_119 ?_
    refine k_iload_n hX (i := 1) rfl rfl dX7_step_122 ?_
    refine k_ald hX ia_223 dX7_step_123 (fun v18 => ?_)
    refine k_ald hX ia_227 dX7_step_124 (fun v19 => ?_)
    refine k_iload_n hX (i := 1) rfl rfl dX7_step_125 ?_
    refine k_callVI (vs := [.int (nI 6), .int v19, .int p1]) hX (fun _ h9 => m_X7_both hX.2.2.2.2.2.2.1  h9) io_218 rfl ml_X7_137 ⟨Nat.le_of_ble_eq_true rfl, Nat.le_of_ble_eq_true rfl⟩ rfl rfl (Nat.le_of_ble_eq_true rfl) dX7_step_126 (fun q20 => ?_)
    refine k_callVI (vs := [.int (nI 5), .int v17, .int q20.1]) hX (fun _ h9 => m_X7_both hX.2.2.2.2.2.2.1  h9) io_218 rfl ml_X7_137 ⟨Nat.le_of_ble_eq_true rfl, Nat.le_of_ble_eq_true rfl⟩ rfl rfl (Nat.le_of_ble_eq_true rfl) dX7_step_129 (fun q21 => ?_)
    exact k_iret hX dX7_step_132
  replace b2 := ne_toInt (k := 1) b2 (by decide)
  replace b5 := ne_toInt (k := 2) b5 (by decide)
  replace b8 := ne_toInt (k := 3) b8 (by decide)
  replace b15 := ne_toInt (k := 4) b15 (by decide)
  refine k_tabOut (tgt := 133) hX dX7_step_6 (by omega) (by decide) ?_
  refine k_aload_n hX (i := 0) rfl rfl dX7_step_133 ?_
  refine k_aload_n hX (i := 0) rfl rfl dX7_step_134 ?_
  refine k_get hX io_218 fl_X7_20 rfl dX7_step_135 ?_
  refine k_iload_n hX (i := 1) rfl rfl dX7_step_138 ?_
  refine k_ald hX ia_222 dX7_step_139 (fun v22 => ?_)
  refine k_iload_n hX (i := 1) rfl rfl dX7_step_140 ?_
  refine k_callVI (vs := [.int v22, .int p1]) hX (fun _ h9 => m_X7_putAll hX.2.2.2.2.2.2.1  h9) io_218 rfl ml_X7_141 ⟨Nat.le_of_ble_eq_true rfl, Nat.le_of_ble_eq_true rfl⟩ rfl rfl (Nat.le_of_ble_eq_true rfl) dX7_step_141 (fun q23 => ?_)
  exact k_iret hX dX7_step_144
set_option maxRecDepth 100000 in
theorem m_X7_step {l : Launch} {G : GL} {ad : Nat → Nat} {MM : Mem} (hAd : AdOK G ad) {p1 : Int32} {M : Mem} {r : Rv} (h : f_X7_step p1 M = some r) : Ct PostI l G ad (EM G ad MM) yX7_step cX7_step 2 (some .int) 6 141 [.ref (ad 218), .int p1] M r := ct_of' hAd (by decide +kernel) (List.forall_mem_cons.mpr ⟨rfl, (List.forall_mem_cons.mpr ⟨rfl, (fun _ h => absurd h List.not_mem_nil)⟩)⟩) (Nat.le_of_ble_eq_true rfl) (L := [some (.ref (ad 218)), some (.int p1)]) rfl (fun _ hX => w_X7_step hX) h
set_option maxHeartbeats 4000000 in
set_option maxRecDepth 100000 in
theorem w_X7_rewritten_123 {l : Launch} {G : GL} {ad : Nat → Nat} {MM : Mem} {X : CT} (hX : Cx l { frames := 7, cells := 0, slots := 0, locals := 162 } cX7_rewritten RX7 5 (some .int) G ad X) {k7 : Int32 → Int32 → Int32 → Mem → Option Rv} (hk7 : ∀ (x1 : Int32) (x2 : Int32) (x3 : Int32) (M : Mem) {L : List (Option Value)}, lsub [some (.ref (ad 218)), some (.int x1), some (.int x2), some (.int x3), none] L → KF l { frames := 7, cells := 0, slots := 0, locals := 162 } 5 G ad (EM G ad MM) (QP PostI G ad (EM G ad MM)) X (k7 x1 x2 x3 M) L 7 [] M) : ∀ (x1 : Int32) (x2 : Int32) (x3 : Int32) (M : Mem) {L : List (Option Value)}, lsub [some (.ref (ad 218)), some (.int x1), some (.int x2), some (.int x3), none] L → KF l { frames := 7, cells := 0, slots := 0, locals := 162 } 5 G ad (EM G ad MM) (QP PostI G ad (EM G ad MM)) X (f_X7_rewritten_123 k7 x1 x2 x3 M) L 123 [] M := by
  intro x1 x2 x3 M L hL
  unfold f_X7_rewritten_123
  refine KF.locals (lsub_le hL) ?_
  refine k_iinc (v := x3 + nI 1) (L' := [some (.ref (ad 218)), some (.int x1), some (.int x2), some (.int (x3 + nI 1)), none]) hX (i := 3) rfl rfl (by decide) rfl dX7_rewritten_123 ?_
  refine k_goto (tgt := 7) hX dX7_rewritten_126 (by decide) ?_
  exact hk7 x1 x2 (x3 + nI 1) M ⟨rfl, rfl, rfl, rfl, trivial⟩
set_option maxHeartbeats 4000000 in
set_option maxRecDepth 100000 in
theorem w_X7_rewritten_47 {l : Launch} {G : GL} {ad : Nat → Nat} {MM : Mem} {X : CT} (hX : Cx l { frames := 7, cells := 0, slots := 0, locals := 162 } cX7_rewritten RX7 5 (some .int) G ad X) {k7 : Int32 → Int32 → Int32 → Mem → Option Rv} (hk7 : ∀ (x1 : Int32) (x2 : Int32) (x3 : Int32) (M : Mem) {L : List (Option Value)}, lsub [some (.ref (ad 218)), some (.int x1), some (.int x2), some (.int x3), none] L → KF l { frames := 7, cells := 0, slots := 0, locals := 162 } 5 G ad (EM G ad MM) (QP PostI G ad (EM G ad MM)) X (k7 x1 x2 x3 M) L 7 [] M) : ∀ (x1 : Int32) (x2 : Int32) (x3 : Int32) (s0 : Int32) (s1 : Int32) (M : Mem) {L : List (Option Value)}, lsub [some (.ref (ad 218)), some (.int x1), some (.int x2), some (.int x3), none] L → KF l { frames := 7, cells := 0, slots := 0, locals := 162 } 5 G ad (EM G ad MM) (QP PostI G ad (EM G ad MM)) X (f_X7_rewritten_47 k7 x1 x2 x3 s0 s1 M) L 47 [.int s0, .int s1, .ref (ad 227)] M := by
  intro x1 x2 x3 s0 s1 M L hL
  unfold f_X7_rewritten_47
  refine KF.locals (lsub_le hL) ?_
  refine k_ast hX locM ia_227 dX7_rewritten_47 (fun M1 => ?_)
  refine k_goto (tgt := 123) hX dX7_rewritten_48 (by decide) ?_
  exact w_X7_rewritten_123 hX hk7 x1 x2 x3 M1 ⟨rfl, rfl, rfl, rfl, trivial⟩
set_option maxHeartbeats 4000000 in
set_option maxRecDepth 100000 in
theorem w_X7_rewritten_99 {l : Launch} {G : GL} {ad : Nat → Nat} {MM : Mem} {X : CT} (hX : Cx l { frames := 7, cells := 0, slots := 0, locals := 162 } cX7_rewritten RX7 5 (some .int) G ad X) {k7 : Int32 → Int32 → Int32 → Mem → Option Rv} (hk7 : ∀ (x1 : Int32) (x2 : Int32) (x3 : Int32) (M : Mem) {L : List (Option Value)}, lsub [some (.ref (ad 218)), some (.int x1), some (.int x2), some (.int x3), none] L → KF l { frames := 7, cells := 0, slots := 0, locals := 162 } 5 G ad (EM G ad MM) (QP PostI G ad (EM G ad MM)) X (k7 x1 x2 x3 M) L 7 [] M) : ∀ (x1 : Int32) (x2 : Int32) (x3 : Int32) (s0 : Int32) (s1 : Int32) (M : Mem) {L : List (Option Value)}, lsub [some (.ref (ad 218)), some (.int x1), some (.int x2), some (.int x3), none] L → KF l { frames := 7, cells := 0, slots := 0, locals := 162 } 5 G ad (EM G ad MM) (QP PostI G ad (EM G ad MM)) X (f_X7_rewritten_99 k7 x1 x2 x3 s0 s1 M) L 99 [.int s0, .int s1, .ref (ad 227)] M := by
  intro x1 x2 x3 s0 s1 M L hL
  unfold f_X7_rewritten_99
  refine KF.locals (lsub_le hL) ?_
  refine k_ast hX locM ia_227 dX7_rewritten_99 (fun M1 => ?_)
  refine k_goto (tgt := 123) hX dX7_rewritten_100 (by decide) ?_
  exact w_X7_rewritten_123 hX hk7 x1 x2 x3 M1 ⟨rfl, rfl, rfl, rfl, trivial⟩
set_option maxHeartbeats 4000000 in
set_option maxRecDepth 100000 in
theorem w_X7_rewritten_74 {l : Launch} {G : GL} {ad : Nat → Nat} {MM : Mem} {X : CT} (hX : Cx l { frames := 7, cells := 0, slots := 0, locals := 162 } cX7_rewritten RX7 5 (some .int) G ad X) {k7 : Int32 → Int32 → Int32 → Mem → Option Rv} (hk7 : ∀ (x1 : Int32) (x2 : Int32) (x3 : Int32) (M : Mem) {L : List (Option Value)}, lsub [some (.ref (ad 218)), some (.int x1), some (.int x2), some (.int x3), none] L → KF l { frames := 7, cells := 0, slots := 0, locals := 162 } 5 G ad (EM G ad MM) (QP PostI G ad (EM G ad MM)) X (k7 x1 x2 x3 M) L 7 [] M) : ∀ (x1 : Int32) (x2 : Int32) (x3 : Int32) (s0 : Int32) (s1 : Int32) (M : Mem) {L : List (Option Value)}, lsub [some (.ref (ad 218)), some (.int x1), some (.int x2), some (.int x3), none] L → KF l { frames := 7, cells := 0, slots := 0, locals := 162 } 5 G ad (EM G ad MM) (QP PostI G ad (EM G ad MM)) X (f_X7_rewritten_74 k7 x1 x2 x3 s0 s1 M) L 74 [.int s0, .int s1] M := by
  intro x1 x2 x3 s0 s1 M L hL
  unfold f_X7_rewritten_74
  refine KF.locals (lsub_le hL) ?_
  refine k_ishr hX dX7_rewritten_74 ?_
  refine k_iconst (v := (nI 1)) hX rfl dX7_rewritten_75 ?_
  refine k_iand hX dX7_rewritten_76 ?_
  refine k_istore (L' := [some (.ref (ad 218)), some (.int x1), some (.int x2), some (.int x3), some (.int ((s1 >>> (s0 &&& nI 31)) &&& (nI 1)))]) hX (by decide) rfl dX7_rewritten_77 ?_
  refine k_aload_n hX (i := 0) rfl rfl dX7_rewritten_79 ?_
  refine k_get hX io_218 fl_X7_35 rfl dX7_rewritten_80 ?_
  refine k_iload_n hX (i := 3) rfl rfl dX7_rewritten_83 ?_
  refine k_iload_n hX (i := 3) rfl rfl dX7_rewritten_84 ?_
  refine k_bipush (v := (nI 10)) hX rfl dX7_rewritten_85 ?_
  refine k_icmp_ge (tgt := 95) hX dX7_rewritten_87 (by decide) (fun b1 => ?_) (fun b1 => ?_)
  · refine k_iconst (v := (nI 1)) hX rfl dX7_rewritten_95 ?_
    refine k_iload hX rfl dX7_rewritten_96 ?_
    refine k_isub hX dX7_rewritten_98 ?_
    exact w_X7_rewritten_99 hX hk7 x1 x2 x3 ((nI 1) - ((s1 >>> (s0 &&& nI 31)) &&& (nI 1))) x3 M ⟨rfl, rfl, rfl, rfl, trivial⟩
  refine k_iload hX rfl dX7_rewritten_90 ?_
  refine k_goto (tgt := 99) hX dX7_rewritten_92 (by decide) ?_
  exact w_X7_rewritten_99 hX hk7 x1 x2 x3 ((s1 >>> (s0 &&& nI 31)) &&& (nI 1)) x3 M ⟨rfl, rfl, rfl, rfl, trivial⟩
set_option maxHeartbeats 4000000 in
set_option maxRecDepth 100000 in
theorem w_X7_rewritten_18 {l : Launch} {G : GL} {ad : Nat → Nat} {MM : Mem} {X : CT} (hX : Cx l { frames := 7, cells := 0, slots := 0, locals := 162 } cX7_rewritten RX7 5 (some .int) G ad X) {k7 : Int32 → Int32 → Int32 → Mem → Option Rv} (hk7 : ∀ (x1 : Int32) (x2 : Int32) (x3 : Int32) (M : Mem) {L : List (Option Value)}, lsub [some (.ref (ad 218)), some (.int x1), some (.int x2), some (.int x3), none] L → KF l { frames := 7, cells := 0, slots := 0, locals := 162 } 5 G ad (EM G ad MM) (QP PostI G ad (EM G ad MM)) X (k7 x1 x2 x3 M) L 7 [] M) : ∀ (x1 : Int32) (x2 : Int32) (x3 : Int32) (M : Mem) {L : List (Option Value)}, lsub [some (.ref (ad 218)), some (.int x1), some (.int x2), some (.int x3), none] L → KF l { frames := 7, cells := 0, slots := 0, locals := 162 } 5 G ad (EM G ad MM) (QP PostI G ad (EM G ad MM)) X (f_X7_rewritten_18 k7 x1 x2 x3 M) L 18 [] M := by
  intro x1 x2 x3 M L hL
  unfold f_X7_rewritten_18
  refine KF.locals (lsub_le hL) ?_
  refine k_iload_n hX (i := 3) rfl rfl dX7_rewritten_18 ?_
  refine k_iconst (v := (nI 4)) hX rfl dX7_rewritten_19 ?_
  refine k_icmp_ge (tgt := 51) hX dX7_rewritten_20 (by decide) (fun b1 => ?_) (fun b1 => ?_)
  · refine k_iload_n hX (i := 3) rfl rfl dX7_rewritten_51 ?_
    refine k_bipush (v := (nI 16)) hX rfl dX7_rewritten_52 ?_
    refine k_icmp_ge (tgt := 103) hX dX7_rewritten_54 (by decide) (fun b2 => ?_) (fun b2 => ?_)
    · refine k_aload_n hX (i := 0) rfl rfl dX7_rewritten_103 ?_
      refine k_get hX io_218 fl_X7_38 rfl dX7_rewritten_104 ?_
      refine k_iload_n hX (i := 3) rfl rfl dX7_rewritten_107 ?_
      refine k_zald hX ia_228 dX7_rewritten_108 (fun v3 => ?_)
      refine k_if_eq (tgt := 123) hX dX7_rewritten_109 (by decide) (fun b4 => ?_) (fun b4 => ?_)
      · exact w_X7_rewritten_123 hX hk7 x1 x2 x3 M ⟨rfl, rfl, rfl, rfl, trivial⟩
      refine k_aload_n hX (i := 0) rfl rfl dX7_rewritten_112 ?_
      refine k_get hX io_218 fl_X7_35 rfl dX7_rewritten_113 ?_
      refine k_iload_n hX (i := 3) rfl rfl dX7_rewritten_116 ?_
      refine k_aload_n hX (i := 0) rfl rfl dX7_rewritten_117 ?_
      refine k_iload_n hX (i := 3) rfl rfl dX7_rewritten_118 ?_
      refine k_callVI (vs := [.int x3]) hX (fun _ h9 => m_X7_step hX.2.2.2.2.2.2.1  h9) io_218 rfl ml_X7_134 ⟨Nat.le_of_ble_eq_true rfl, Nat.le_of_ble_eq_true rfl⟩ rfl rfl (Nat.le_of_ble_eq_true rfl) dX7_rewritten_119 (fun q5 => ?_)
      refine k_ast hX locM ia_227 dX7_rewritten_122 (fun M6 => ?_)
      exact w_X7_rewritten_123 hX hk7 x1 x2 x3 M6 ⟨rfl, rfl, rfl, rfl, trivial⟩
    refine k_iload_n hX (i := 2) rfl rfl dX7_rewritten_57 ?_
    refine k_iload_n hX (i := 3) rfl rfl dX7_rewritten_58 ?_
    refine k_bipush (v := (nI 10)) hX rfl dX7_rewritten_59 ?_
    refine k_icmp_ge (tgt := 70) hX dX7_rewritten_61 (by decide) (fun b7 => ?_) (fun b7 => ?_)
    · refine k_iload_n hX (i := 3) rfl rfl dX7_rewritten_70 ?_
      refine k_bipush (v := (nI 10)) hX rfl dX7_rewritten_71 ?_
      refine k_isub hX dX7_rewritten_73 ?_
      exact w_X7_rewritten_74 hX hk7 x1 x2 x3 (x3 - (nI 10)) x2 M ⟨rfl, rfl, rfl, rfl, trivial⟩
    refine k_iload_n hX (i := 3) rfl rfl dX7_rewritten_64 ?_
    refine k_iconst (v := (nI 4)) hX rfl dX7_rewritten_65 ?_
    refine k_isub hX dX7_rewritten_66 ?_
    refine k_goto (tgt := 74) hX dX7_rewritten_67 (by decide) ?_
    exact w_X7_rewritten_74 hX hk7 x1 x2 x3 (x3 - (nI 4)) x2 M ⟨rfl, rfl, rfl, rfl, trivial⟩
  refine k_aload_n hX (i := 0) rfl rfl dX7_rewritten_23 ?_
  refine k_get hX io_218 fl_X7_35 rfl dX7_rewritten_24 ?_
  refine k_iload_n hX (i := 3) rfl rfl dX7_rewritten_27 ?_
  refine k_iload_n hX (i := 3) rfl rfl dX7_rewritten_28 ?_
  refine k_iconst (v := (nI 2)) hX rfl dX7_rewritten_29 ?_
  refine k_icmp_ge (tgt := 37) hX dX7_rewritten_30 (by decide) (fun b8 => ?_) (fun b8 => ?_)
  · refine k_iload_n hX (i := 3) rfl rfl dX7_rewritten_37 ?_
    refine k_iconst (v := (nI 2)) hX rfl dX7_rewritten_38 ?_
    refine k_icmp_ne (tgt := 46) hX dX7_rewritten_39 (by decide) (fun b9 => ?_) (fun b9 => ?_)
    · refine k_iconst (v := (nI 0)) hX rfl dX7_rewritten_46 ?_
      exact w_X7_rewritten_47 hX hk7 x1 x2 x3 (nI 0) x3 M ⟨rfl, rfl, rfl, rfl, trivial⟩
    refine k_iconst (v := (nI 1)) hX rfl dX7_rewritten_42 ?_
    refine k_goto (tgt := 47) hX dX7_rewritten_43 (by decide) ?_
    exact w_X7_rewritten_47 hX hk7 x1 x2 x3 (nI 1) x3 M ⟨rfl, rfl, rfl, rfl, trivial⟩
  refine k_iload_n hX (i := 3) rfl rfl dX7_rewritten_33 ?_
  refine k_goto (tgt := 47) hX dX7_rewritten_34 (by decide) ?_
  exact w_X7_rewritten_47 hX hk7 x1 x2 x3 x3 x3 M ⟨rfl, rfl, rfl, rfl, trivial⟩
set_option maxHeartbeats 4000000 in
set_option maxRecDepth 100000 in
theorem w_X7_rewritten_7 {l : Launch} {G : GL} {ad : Nat → Nat} {MM : Mem} {X : CT} (hX : Cx l { frames := 7, cells := 0, slots := 0, locals := 162 } cX7_rewritten RX7 5 (some .int) G ad X) : ∀ (n : Nat), ∀ (x1 : Int32) (x2 : Int32) (x3 : Int32) (M : Mem) {L : List (Option Value)}, lsub [some (.ref (ad 218)), some (.int x1), some (.int x2), some (.int x3), none] L → KF l { frames := 7, cells := 0, slots := 0, locals := 162 } 5 G ad (EM G ad MM) (QP PostI G ad (EM G ad MM)) X (f_X7_rewritten_7 n x1 x2 x3 M) L 7 [] M := by
  intro n
  induction n with
  | zero =>
    intro x1 x2 x3 M L hL
    exact KF.none'
  | succ n ih =>
    intro x1 x2 x3 M L hL
    rw [f_X7_rewritten_7]
    refine KF.locals (lsub_le hL) ?_
    refine k_iload_n hX (i := 3) rfl rfl dX7_rewritten_7 ?_
    refine k_iload_n hX (i := 1) rfl rfl dX7_rewritten_8 ?_
    refine k_icmp_le (tgt := 18) hX dX7_rewritten_9 (by decide) (fun b1 => ?_) (fun b1 => ?_)
    · exact w_X7_rewritten_18 hX ih x1 x2 x3 M ⟨rfl, rfl, rfl, rfl, trivial⟩
    refine k_iload_n hX (i := 3) rfl rfl dX7_rewritten_12 ?_
    refine k_bipush (v := (nI 16)) hX rfl dX7_rewritten_13 ?_
    refine k_icmp_ge (tgt := 129) hX dX7_rewritten_15 (by decide) (fun b2 => ?_) (fun b2 => ?_)
    · refine k_aload_n hX (i := 0) rfl rfl dX7_rewritten_129 ?_
      refine k_get hX io_218 fl_X7_35 rfl dX7_rewritten_130 ?_
      refine k_iload_n hX (i := 1) rfl rfl dX7_rewritten_133 ?_
      refine k_ald hX ia_227 dX7_rewritten_134 (fun v3 => ?_)
      exact k_iret hX dX7_rewritten_135
    exact w_X7_rewritten_18 hX ih x1 x2 x3 M ⟨rfl, rfl, rfl, rfl, trivial⟩
set_option maxHeartbeats 4000000 in
set_option maxRecDepth 100000 in
theorem w_X7_rewritten {l : Launch} {G : GL} {ad : Nat → Nat} {MM : Mem} {X : CT} (hX : Cx l { frames := 7, cells := 0, slots := 0, locals := 162 } cX7_rewritten RX7 5 (some .int) G ad X) {p1 : Int32} {p2 : Int32} {M : Mem} : KF l { frames := 7, cells := 0, slots := 0, locals := 162 } 5 G ad (EM G ad MM) (QP PostI G ad (EM G ad MM)) X (f_X7_rewritten p1 p2 M) [some (.ref (ad 218)), some (.int p1), some (.int p2), none, none] 0 [] M := by
  unfold f_X7_rewritten
  refine k_aload_n hX (i := 0) rfl rfl dX7_rewritten_0 ?_
  refine k_iload_n hX (i := 1) rfl rfl dX7_rewritten_1 ?_
  refine k_callVV (vs := [.int p1]) hX (fun _ h9 => m_X7_mark hX.2.2.2.2.2.2.1  h9) io_218 rfl ml_X7_130 ⟨Nat.le_of_ble_eq_true rfl, Nat.le_of_ble_eq_true rfl⟩ rfl rfl (Nat.le_of_ble_eq_true rfl) dX7_rewritten_2 (fun q1 => ?_)
  refine k_iconst (v := (nI 0)) hX rfl dX7_rewritten_5 ?_
  refine k_istore_n (L' := [some (.ref (ad 218)), some (.int p1), some (.int p2), some (.int (nI 0)), none]) hX (i := 3) rfl (by decide) rfl dX7_rewritten_6 ?_
  exact w_X7_rewritten_7 hX fuelN p1 p2 (nI 0) q1.2 ⟨rfl, rfl, rfl, rfl, trivial⟩
set_option maxRecDepth 100000 in
theorem m_X7_rewritten {l : Launch} {G : GL} {ad : Nat → Nat} {MM : Mem} (hAd : AdOK G ad) {p1 : Int32} {p2 : Int32} {M : Mem} {r : Rv} (h : f_X7_rewritten p1 p2 M = some r) : Ct PostI l G ad (EM G ad MM) yX7_rewritten cX7_rewritten 5 (some .int) 7 162 [.ref (ad 218), .int p1, .int p2] M r := ct_of' hAd (by decide +kernel) (List.forall_mem_cons.mpr ⟨rfl, (List.forall_mem_cons.mpr ⟨rfl, (List.forall_mem_cons.mpr ⟨rfl, (fun _ h => absurd h List.not_mem_nil)⟩)⟩)⟩) (Nat.le_of_ble_eq_true rfl) (L := [some (.ref (ad 218)), some (.int p1), some (.int p2), none, none]) rfl (fun _ hX => w_X7_rewritten hX) h
set_option maxHeartbeats 4000000 in
set_option maxRecDepth 100000 in
theorem w_X7_turned {l : Launch} {G : GL} {ad : Nat → Nat} {MM : Mem} {X : CT} (hX : Cx l { frames := 6, cells := 0, slots := 0, locals := 141 } cX7_turned RX7 2 (some .int) G ad X) {p1 : Int32} {M : Mem} : KF l { frames := 6, cells := 0, slots := 0, locals := 141 } 2 G ad (EM G ad MM) (QP PostI G ad (EM G ad MM)) X (f_X7_turned p1 M) [some (.ref (ad 218)), some (.int p1)] 0 [] M := by
  unfold f_X7_turned
  refine k_aload_n hX (i := 0) rfl rfl dX7_turned_0 ?_
  refine k_get hX io_218 fl_X7_20 rfl dX7_turned_1 ?_
  refine k_iload_n hX (i := 1) rfl rfl dX7_turned_4 ?_
  refine k_ald hX ia_222 dX7_turned_5 (fun v1 => ?_)
  refine KF.ite (fun b2 => ?_) (fun b2 => ?_)
  · refine k_tabIn (tgt := 40) hX b2 dX7_turned_6 (by decide) (by decide) rfl (by decide) ?_
    refine k_aload_n hX (i := 0) rfl rfl dX7_turned_40 ?_
    refine k_iconst (v := (nI 2)) hX rfl dX7_turned_41 ?_
    refine k_aload_n hX (i := 0) rfl rfl dX7_turned_42 ?_
    refine k_get hX io_218 fl_X7_35 rfl dX7_turned_43 ?_
    refine k_aload_n hX (i := 0) rfl rfl dX7_turned_46 ?_
    refine k_get hX io_218 fl_X7_23 rfl dX7_turned_47 ?_
    refine k_iload_n hX (i := 1) rfl rfl dX7_turned_50 ?_
    refine k_ald hX ia_223 dX7_turned_51 (fun v3 => ?_)
    refine k_ald hX ia_227 dX7_turned_52 (fun v4 => ?_)
    refine k_iconst (v := (nI 0)) hX rfl dX7_turned_53 ?_
    refine k_callVI (vs := [.int (nI 2), .int v4, .int (nI 0)]) hX (fun _ h9 => m_X7_make hX.2.2.2.2.2.2.1  h9) io_218 rfl ml_X7_147 ⟨Nat.le_of_ble_eq_true rfl, Nat.le_of_ble_eq_true rfl⟩ rfl rfl (Nat.le_of_ble_eq_true rfl) dX7_turned_54 (fun q5 => ?_)
    exact k_iret hX dX7_turned_57
  refine KF.ite (fun b6 => ?_) (fun b6 => ?_)
  · refine k_tabIn (tgt := 58) hX b6 dX7_turned_6 (by decide) (by decide) rfl (by decide) ?_
    refine k_aload_n hX (i := 0) rfl rfl dX7_turned_58 ?_
    refine k_iconst (v := (nI 1)) hX rfl dX7_turned_59 ?_
    refine k_aload_n hX (i := 0) rfl rfl dX7_turned_60 ?_
    refine k_get hX io_218 fl_X7_35 rfl dX7_turned_61 ?_
    refine k_aload_n hX (i := 0) rfl rfl dX7_turned_64 ?_
    refine k_get hX io_218 fl_X7_23 rfl dX7_turned_65 ?_
    refine k_iload_n hX (i := 1) rfl rfl dX7_turned_68 ?_
    refine k_ald hX ia_223 dX7_turned_69 (fun v7 => ?_)
    refine k_ald hX ia_227 dX7_turned_70 (fun v8 => ?_)
    refine k_iconst (v := (nI 0)) hX rfl dX7_turned_71 ?_
    refine k_callVI (vs := [.int (nI 1), .int v8, .int (nI 0)]) hX (fun _ h9 => m_X7_make hX.2.2.2.2.2.2.1  h9) io_218 rfl ml_X7_147 ⟨Nat.le_of_ble_eq_true rfl, Nat.le_of_ble_eq_true rfl⟩ rfl rfl (Nat.le_of_ble_eq_true rfl) dX7_turned_72 (fun q9 => ?_)
    exact k_iret hX dX7_turned_75
  refine KF.ite (fun b10 => ?_) (fun b10 => ?_)
  · refine k_tabIn (tgt := 76) hX b10 dX7_turned_6 (by decide) (by decide) rfl (by decide) ?_
    refine k_aload_n hX (i := 0) rfl rfl dX7_turned_76 ?_
    refine k_iconst (v := (nI 4)) hX rfl dX7_turned_77 ?_
    refine k_aload_n hX (i := 0) rfl rfl dX7_turned_78 ?_
    refine k_get hX io_218 fl_X7_35 rfl dX7_turned_79 ?_
    refine k_aload_n hX (i := 0) rfl rfl dX7_turned_82 ?_
    refine k_get hX io_218 fl_X7_23 rfl dX7_turned_83 ?_
    refine k_iload_n hX (i := 1) rfl rfl dX7_turned_86 ?_
    refine k_ald hX ia_223 dX7_turned_87 (fun v11 => ?_)
    refine k_ald hX ia_227 dX7_turned_88 (fun v12 => ?_)
    refine k_aload_n hX (i := 0) rfl rfl dX7_turned_89 ?_
    refine k_get hX io_218 fl_X7_35 rfl dX7_turned_90 ?_
    refine k_aload_n hX (i := 0) rfl rfl dX7_turned_93 ?_
    refine k_get hX io_218 fl_X7_26 rfl dX7_turned_94 ?_
    refine k_iload_n hX (i := 1) rfl rfl dX7_turned_97 ?_
    refine k_ald hX ia_224 dX7_turned_98 (fun v13 => ?_)
    refine k_ald hX ia_227 dX7_turned_99 (fun v14 => ?_)
    refine k_callVI (vs := [.int (nI 4), .int v12, .int v14]) hX (fun _ h9 => m_X7_make hX.2.2.2.2.2.2.1  h9) io_218 rfl ml_X7_147 ⟨Nat.le_of_ble_eq_true rfl, Nat.le_of_ble_eq_true rfl⟩ rfl rfl (Nat.le_of_ble_eq_true rfl) dX7_turned_100 (fun q15 => ?_)
    exact k_iret hX dX7_turned_103
  refine KF.ite (fun b16 => ?_) (fun b16 => ?_)
  · refine k_tabIn (tgt := 104) hX b16 dX7_turned_6 (by decide) (by decide) rfl (by decide) ?_
    refine k_aload_n hX (i := 0) rfl rfl dX7_turned_104 ?_
    refine k_iconst (v := (nI 3)) hX rfl dX7_turned_105 ?_
    refine k_aload_n hX (i := 0) rfl rfl dX7_turned_106 ?_
    refine k_get hX io_218 fl_X7_35 rfl dX7_turned_107 ?_
    refine k_aload_n hX (i := 0) rfl rfl dX7_turned_110 ?_
    refine k_get hX io_218 fl_X7_23 rfl dX7_turned_111 ?_
    refine k_iload_n hX (i := 1) rfl rfl dX7_turned_114 ?_
    refine k_ald hX ia_223 dX7_turned_115 (fun v17 => ?_)
    refine k_ald hX ia_227 dX7_turned_116 (fun v18 => ?_)
    refine k_aload_n hX (i := 0) rfl rfl dX7_turned_117 ?_
    refine k_get hX io_218 fl_X7_35 rfl dX7_turned_118 ?_
    refine k_aload_n hX (i := 0) rfl rfl dX7_turned_121 ?_
    refine k_get hX io_218 fl_X7_26 rfl dX7_turned_122 ?_
    refine k_iload_n hX (i := 1) rfl rfl dX7_turned_125 ?_
    refine k_ald hX ia_224 dX7_turned_126 (fun v19 => ?_)
    refine k_ald hX ia_227 dX7_turned_127 (fun v20 => ?_)
    refine k_callVI (vs := [.int (nI 3), .int v18, .int v20]) hX (fun _ h9 => m_X7_make hX.2.2.2.2.2.2.1  h9) io_218 rfl ml_X7_147 ⟨Nat.le_of_ble_eq_true rfl, Nat.le_of_ble_eq_true rfl⟩ rfl rfl (Nat.le_of_ble_eq_true rfl) dX7_turned_128 (fun q21 => ?_)
    exact k_iret hX dX7_turned_131
  refine KF.ite (fun b22 => ?_) (fun b22 => ?_)
  · refine k_tabIn (tgt := 132) hX b22 dX7_turned_6 (by decide) (by decide) rfl (by decide) ?_
    refine k_aload_n hX (i := 0) rfl rfl dX7_turned_132 ?_
    refine k_bipush (v := (nI 6)) hX rfl dX7_turned_133 ?_
    refine k_iload_n hX (i := 1) rfl rfl dX7_turned_135 ?_
    refine k_callVI (vs := [.int (nI 6), .int p1]) hX (fun _ h9 => m_X7_putAll hX.2.2.2.2.2.2.1  h9) io_218 rfl ml_X7_141 ⟨Nat.le_of_ble_eq_true rfl, Nat.le_of_ble_eq_true rfl⟩ rfl rfl (Nat.le_of_ble_eq_true rfl) dX7_turned_136 (fun q23 => ?_)
    exact k_iret hX dX7_turned_139
  replace b2 := ne_toInt (k := 1) b2 (by decide)
  replace b6 := ne_toInt (k := 2) b6 (by decide)
  replace b10 := ne_toInt (k := 3) b10 (by decide)
  replace b16 := ne_toInt (k := 4) b16 (by decide)
  replace b22 := ne_toInt (k := 5) b22 (by decide)
  refine k_tabOut (tgt := 140) hX dX7_turned_6 (by omega) (by decide) ?_
  refine k_aload_n hX (i := 0) rfl rfl dX7_turned_140 ?_
  refine k_iconst (v := (nI 5)) hX rfl dX7_turned_141 ?_
  refine k_iload_n hX (i := 1) rfl rfl dX7_turned_142 ?_
  refine k_callVI (vs := [.int (nI 5), .int p1]) hX (fun _ h9 => m_X7_putAll hX.2.2.2.2.2.2.1  h9) io_218 rfl ml_X7_141 ⟨Nat.le_of_ble_eq_true rfl, Nat.le_of_ble_eq_true rfl⟩ rfl rfl (Nat.le_of_ble_eq_true rfl) dX7_turned_143 (fun q24 => ?_)
  exact k_iret hX dX7_turned_146
set_option maxRecDepth 100000 in
theorem m_X7_turned {l : Launch} {G : GL} {ad : Nat → Nat} {MM : Mem} (hAd : AdOK G ad) {p1 : Int32} {M : Mem} {r : Rv} (h : f_X7_turned p1 M = some r) : Ct PostI l G ad (EM G ad MM) yX7_turned cX7_turned 2 (some .int) 6 141 [.ref (ad 218), .int p1] M r := ct_of' hAd (by decide +kernel) (List.forall_mem_cons.mpr ⟨rfl, (List.forall_mem_cons.mpr ⟨rfl, (fun _ h => absurd h List.not_mem_nil)⟩)⟩) (Nat.le_of_ble_eq_true rfl) (L := [some (.ref (ad 218)), some (.int p1)]) rfl (fun _ hX => w_X7_turned hX) h
set_option maxHeartbeats 4000000 in
set_option maxRecDepth 100000 in
theorem w_X7_opposite_68 {l : Launch} {G : GL} {ad : Nat → Nat} {MM : Mem} {X : CT} (hX : Cx l { frames := 7, cells := 0, slots := 0, locals := 162 } cX7_opposite RX7 3 (some .int) G ad X) {k7 : Int32 → Int32 → Mem → Option Rv} (hk7 : ∀ (x1 : Int32) (x2 : Int32) (M : Mem) {L : List (Option Value)}, lsub [some (.ref (ad 218)), some (.int x1), some (.int x2)] L → KF l { frames := 7, cells := 0, slots := 0, locals := 162 } 3 G ad (EM G ad MM) (QP PostI G ad (EM G ad MM)) X (k7 x1 x2 M) L 7 [] M) : ∀ (x1 : Int32) (x2 : Int32) (M : Mem) {L : List (Option Value)}, lsub [some (.ref (ad 218)), some (.int x1), some (.int x2)] L → KF l { frames := 7, cells := 0, slots := 0, locals := 162 } 3 G ad (EM G ad MM) (QP PostI G ad (EM G ad MM)) X (f_X7_opposite_68 k7 x1 x2 M) L 68 [] M := by
  intro x1 x2 M L hL
  unfold f_X7_opposite_68
  refine KF.locals (lsub_le hL) ?_
  refine k_iinc (v := x2 + nI 1) (L' := [some (.ref (ad 218)), some (.int x1), some (.int (x2 + nI 1))]) hX (i := 2) rfl rfl (by decide) rfl dX7_opposite_68 ?_
  refine k_goto (tgt := 7) hX dX7_opposite_71 (by decide) ?_
  exact hk7 x1 (x2 + nI 1) M ⟨rfl, rfl, rfl, trivial⟩
set_option maxHeartbeats 4000000 in
set_option maxRecDepth 100000 in
theorem w_X7_opposite_44 {l : Launch} {G : GL} {ad : Nat → Nat} {MM : Mem} {X : CT} (hX : Cx l { frames := 7, cells := 0, slots := 0, locals := 162 } cX7_opposite RX7 3 (some .int) G ad X) {k7 : Int32 → Int32 → Mem → Option Rv} (hk7 : ∀ (x1 : Int32) (x2 : Int32) (M : Mem) {L : List (Option Value)}, lsub [some (.ref (ad 218)), some (.int x1), some (.int x2)] L → KF l { frames := 7, cells := 0, slots := 0, locals := 162 } 3 G ad (EM G ad MM) (QP PostI G ad (EM G ad MM)) X (k7 x1 x2 M) L 7 [] M) : ∀ (x1 : Int32) (x2 : Int32) (s0 : Int32) (s1 : Int32) (M : Mem) {L : List (Option Value)}, lsub [some (.ref (ad 218)), some (.int x1), some (.int x2)] L → KF l { frames := 7, cells := 0, slots := 0, locals := 162 } 3 G ad (EM G ad MM) (QP PostI G ad (EM G ad MM)) X (f_X7_opposite_44 k7 x1 x2 s0 s1 M) L 44 [.int s0, .int s1, .ref (ad 227)] M := by
  intro x1 x2 s0 s1 M L hL
  unfold f_X7_opposite_44
  refine KF.locals (lsub_le hL) ?_
  refine k_ast hX locM ia_227 dX7_opposite_44 (fun M1 => ?_)
  refine k_goto (tgt := 68) hX dX7_opposite_45 (by decide) ?_
  exact w_X7_opposite_68 hX hk7 x1 x2 M1 ⟨rfl, rfl, rfl, trivial⟩
set_option maxHeartbeats 4000000 in
set_option maxRecDepth 100000 in
theorem w_X7_opposite_18 {l : Launch} {G : GL} {ad : Nat → Nat} {MM : Mem} {X : CT} (hX : Cx l { frames := 7, cells := 0, slots := 0, locals := 162 } cX7_opposite RX7 3 (some .int) G ad X) {k7 : Int32 → Int32 → Mem → Option Rv} (hk7 : ∀ (x1 : Int32) (x2 : Int32) (M : Mem) {L : List (Option Value)}, lsub [some (.ref (ad 218)), some (.int x1), some (.int x2)] L → KF l { frames := 7, cells := 0, slots := 0, locals := 162 } 3 G ad (EM G ad MM) (QP PostI G ad (EM G ad MM)) X (k7 x1 x2 M) L 7 [] M) : ∀ (x1 : Int32) (x2 : Int32) (M : Mem) {L : List (Option Value)}, lsub [some (.ref (ad 218)), some (.int x1), some (.int x2)] L → KF l { frames := 7, cells := 0, slots := 0, locals := 162 } 3 G ad (EM G ad MM) (QP PostI G ad (EM G ad MM)) X (f_X7_opposite_18 k7 x1 x2 M) L 18 [] M := by
  intro x1 x2 M L hL
  unfold f_X7_opposite_18
  refine KF.locals (lsub_le hL) ?_
  refine k_iload_n hX (i := 2) rfl rfl dX7_opposite_18 ?_
  refine k_bipush (v := (nI 16)) hX rfl dX7_opposite_19 ?_
  refine k_icmp_ge (tgt := 48) hX dX7_opposite_21 (by decide) (fun b1 => ?_) (fun b1 => ?_)
  · refine k_aload_n hX (i := 0) rfl rfl dX7_opposite_48 ?_
    refine k_get hX io_218 fl_X7_38 rfl dX7_opposite_49 ?_
    refine k_iload_n hX (i := 2) rfl rfl dX7_opposite_52 ?_
    refine k_zald hX ia_228 dX7_opposite_53 (fun v2 => ?_)
    refine k_if_eq (tgt := 68) hX dX7_opposite_54 (by decide) (fun b3 => ?_) (fun b3 => ?_)
    · exact w_X7_opposite_68 hX hk7 x1 x2 M ⟨rfl, rfl, rfl, trivial⟩
    refine k_aload_n hX (i := 0) rfl rfl dX7_opposite_57 ?_
    refine k_get hX io_218 fl_X7_35 rfl dX7_opposite_58 ?_
    refine k_iload_n hX (i := 2) rfl rfl dX7_opposite_61 ?_
    refine k_aload_n hX (i := 0) rfl rfl dX7_opposite_62 ?_
    refine k_iload_n hX (i := 2) rfl rfl dX7_opposite_63 ?_
    refine k_callVI (vs := [.int x2]) hX (fun _ h9 => m_X7_turned hX.2.2.2.2.2.2.1  h9) io_218 rfl ml_X7_144 ⟨Nat.le_of_ble_eq_true rfl, Nat.le_of_ble_eq_true rfl⟩ rfl rfl (Nat.le_of_ble_eq_true rfl) dX7_opposite_64 (fun q4 => ?_)
    refine k_ast hX locM ia_227 dX7_opposite_67 (fun M5 => ?_)
    exact w_X7_opposite_68 hX hk7 x1 x2 M5 ⟨rfl, rfl, rfl, trivial⟩
  refine k_aload_n hX (i := 0) rfl rfl dX7_opposite_24 ?_
  refine k_get hX io_218 fl_X7_35 rfl dX7_opposite_25 ?_
  refine k_iload_n hX (i := 2) rfl rfl dX7_opposite_28 ?_
  refine k_iload_n hX (i := 2) rfl rfl dX7_opposite_29 ?_
  refine k_iconst (v := (nI 2)) hX rfl dX7_opposite_30 ?_
  refine k_icmp_ge (tgt := 40) hX dX7_opposite_31 (by decide) (fun b6 => ?_) (fun b6 => ?_)
  · refine k_iload_n hX (i := 2) rfl rfl dX7_opposite_40 ?_
    refine k_callSI (vs := [.int x2]) hX (fun _ h9 => m_X7_counter hX.2.2.2.2.2.2.1  h9) ml_X7_108 ⟨Nat.le_of_ble_eq_true rfl, Nat.le_of_ble_eq_true rfl⟩ rfl rfl (Nat.le_of_ble_eq_true rfl) dX7_opposite_41 (fun q7 => ?_)
    exact w_X7_opposite_44 hX hk7 x1 x2 q7.1 x2 q7.2 ⟨rfl, rfl, rfl, trivial⟩
  refine k_iconst (v := (nI 1)) hX rfl dX7_opposite_34 ?_
  refine k_iload_n hX (i := 2) rfl rfl dX7_opposite_35 ?_
  refine k_isub hX dX7_opposite_36 ?_
  refine k_goto (tgt := 44) hX dX7_opposite_37 (by decide) ?_
  exact w_X7_opposite_44 hX hk7 x1 x2 ((nI 1) - x2) x2 M ⟨rfl, rfl, rfl, trivial⟩
set_option maxHeartbeats 4000000 in
set_option maxRecDepth 100000 in
theorem w_X7_opposite_7 {l : Launch} {G : GL} {ad : Nat → Nat} {MM : Mem} {X : CT} (hX : Cx l { frames := 7, cells := 0, slots := 0, locals := 162 } cX7_opposite RX7 3 (some .int) G ad X) : ∀ (n : Nat), ∀ (x1 : Int32) (x2 : Int32) (M : Mem) {L : List (Option Value)}, lsub [some (.ref (ad 218)), some (.int x1), some (.int x2)] L → KF l { frames := 7, cells := 0, slots := 0, locals := 162 } 3 G ad (EM G ad MM) (QP PostI G ad (EM G ad MM)) X (f_X7_opposite_7 n x1 x2 M) L 7 [] M := by
  intro n
  induction n with
  | zero =>
    intro x1 x2 M L hL
    exact KF.none'
  | succ n ih =>
    intro x1 x2 M L hL
    rw [f_X7_opposite_7]
    refine KF.locals (lsub_le hL) ?_
    refine k_iload_n hX (i := 2) rfl rfl dX7_opposite_7 ?_
    refine k_iload_n hX (i := 1) rfl rfl dX7_opposite_8 ?_
    refine k_icmp_le (tgt := 18) hX dX7_opposite_9 (by decide) (fun b1 => ?_) (fun b1 => ?_)
    · exact w_X7_opposite_18 hX ih x1 x2 M ⟨rfl, rfl, rfl, trivial⟩
    refine k_iload_n hX (i := 2) rfl rfl dX7_opposite_12 ?_
    refine k_bipush (v := (nI 16)) hX rfl dX7_opposite_13 ?_
    refine k_icmp_ge (tgt := 74) hX dX7_opposite_15 (by decide) (fun b2 => ?_) (fun b2 => ?_)
    · refine k_aload_n hX (i := 0) rfl rfl dX7_opposite_74 ?_
      refine k_get hX io_218 fl_X7_35 rfl dX7_opposite_75 ?_
      refine k_iload_n hX (i := 1) rfl rfl dX7_opposite_78 ?_
      refine k_ald hX ia_227 dX7_opposite_79 (fun v3 => ?_)
      exact k_iret hX dX7_opposite_80
    exact w_X7_opposite_18 hX ih x1 x2 M ⟨rfl, rfl, rfl, trivial⟩
set_option maxHeartbeats 4000000 in
set_option maxRecDepth 100000 in
theorem w_X7_opposite {l : Launch} {G : GL} {ad : Nat → Nat} {MM : Mem} {X : CT} (hX : Cx l { frames := 7, cells := 0, slots := 0, locals := 162 } cX7_opposite RX7 3 (some .int) G ad X) {p1 : Int32} {M : Mem} : KF l { frames := 7, cells := 0, slots := 0, locals := 162 } 3 G ad (EM G ad MM) (QP PostI G ad (EM G ad MM)) X (f_X7_opposite p1 M) [some (.ref (ad 218)), some (.int p1), none] 0 [] M := by
  unfold f_X7_opposite
  refine k_aload_n hX (i := 0) rfl rfl dX7_opposite_0 ?_
  refine k_iload_n hX (i := 1) rfl rfl dX7_opposite_1 ?_
  refine k_callVV (vs := [.int p1]) hX (fun _ h9 => m_X7_mark hX.2.2.2.2.2.2.1  h9) io_218 rfl ml_X7_130 ⟨Nat.le_of_ble_eq_true rfl, Nat.le_of_ble_eq_true rfl⟩ rfl rfl (Nat.le_of_ble_eq_true rfl) dX7_opposite_2 (fun q1 => ?_)
  refine k_iconst (v := (nI 0)) hX rfl dX7_opposite_5 ?_
  refine k_istore_n (L' := [some (.ref (ad 218)), some (.int p1), some (.int (nI 0))]) hX (i := 2) rfl (by decide) rfl dX7_opposite_6 ?_
  exact w_X7_opposite_7 hX fuelN p1 (nI 0) q1.2 ⟨rfl, rfl, rfl, trivial⟩
set_option maxRecDepth 100000 in
theorem m_X7_opposite {l : Launch} {G : GL} {ad : Nat → Nat} {MM : Mem} (hAd : AdOK G ad) {p1 : Int32} {M : Mem} {r : Rv} (h : f_X7_opposite p1 M = some r) : Ct PostI l G ad (EM G ad MM) yX7_opposite cX7_opposite 3 (some .int) 7 162 [.ref (ad 218), .int p1] M r := ct_of' hAd (by decide +kernel) (List.forall_mem_cons.mpr ⟨rfl, (List.forall_mem_cons.mpr ⟨rfl, (fun _ h => absurd h List.not_mem_nil)⟩)⟩) (Nat.le_of_ble_eq_true rfl) (L := [some (.ref (ad 218)), some (.int p1), none]) rfl (fun _ hX => w_X7_opposite hX) h
set_option maxHeartbeats 4000000 in
set_option maxRecDepth 100000 in
theorem w_X7_isTrue_175 {l : Launch} {G : GL} {ad : Nat → Nat} {MM : Mem} {X : CT} (hX : Cx l { frames := 0, cells := 0, slots := 0, locals := 0 } cX7_isTrue RX7 5 (some .boolean) G ad X) {k2 : Int32 → Int32 → Mem → Option Rv} (hk2 : ∀ (x1 : Int32) (x2 : Int32) (M : Mem) {L : List (Option Value)}, lsub [some (.ref (ad 218)), some (.int x1), some (.int x2), none, none] L → KF l { frames := 0, cells := 0, slots := 0, locals := 0 } 5 G ad (EM G ad MM) (QP PostI G ad (EM G ad MM)) X (k2 x1 x2 M) L 2 [] M) : ∀ (x1 : Int32) (x2 : Int32) (M : Mem) {L : List (Option Value)}, lsub [some (.ref (ad 218)), some (.int x1), some (.int x2), none, none] L → KF l { frames := 0, cells := 0, slots := 0, locals := 0 } 5 G ad (EM G ad MM) (QP PostI G ad (EM G ad MM)) X (f_X7_isTrue_175 k2 x1 x2 M) L 175 [] M := by
  intro x1 x2 M L hL
  unfold f_X7_isTrue_175
  refine KF.locals (lsub_le hL) ?_
  refine k_iinc (v := x2 + nI 1) (L' := [some (.ref (ad 218)), some (.int x1), some (.int (x2 + nI 1)), none, none]) hX (i := 2) rfl rfl (by decide) rfl dX7_isTrue_175 ?_
  refine k_goto (tgt := 2) hX dX7_isTrue_178 (by decide) ?_
  exact hk2 x1 (x2 + nI 1) M ⟨rfl, rfl, rfl, trivial⟩
set_option maxHeartbeats 4000000 in
set_option maxRecDepth 100000 in
theorem w_X7_isTrue_45 {l : Launch} {G : GL} {ad : Nat → Nat} {MM : Mem} {X : CT} (hX : Cx l { frames := 0, cells := 0, slots := 0, locals := 0 } cX7_isTrue RX7 5 (some .boolean) G ad X) {k2 : Int32 → Int32 → Mem → Option Rv} (hk2 : ∀ (x1 : Int32) (x2 : Int32) (M : Mem) {L : List (Option Value)}, lsub [some (.ref (ad 218)), some (.int x1), some (.int x2), none, none] L → KF l { frames := 0, cells := 0, slots := 0, locals := 0 } 5 G ad (EM G ad MM) (QP PostI G ad (EM G ad MM)) X (k2 x1 x2 M) L 2 [] M) : ∀ (x1 : Int32) (x2 : Int32) (s0 : Int32) (s1 : Int32) (M : Mem) {L : List (Option Value)}, lsub [some (.ref (ad 218)), some (.int x1), some (.int x2), none, none] L → KF l { frames := 0, cells := 0, slots := 0, locals := 0 } 5 G ad (EM G ad MM) (QP PostI G ad (EM G ad MM)) X (f_X7_isTrue_45 k2 x1 x2 s0 s1 M) L 45 [.int s0, .int s1, .ref (ad 227)] M := by
  intro x1 x2 s0 s1 M L hL
  unfold f_X7_isTrue_45
  refine KF.locals (lsub_le hL) ?_
  refine k_ast hX locM ia_227 dX7_isTrue_45 (fun M1 => ?_)
  refine k_goto (tgt := 175) hX dX7_isTrue_46 (by decide) ?_
  exact w_X7_isTrue_175 hX hk2 x1 x2 M1 ⟨rfl, rfl, rfl, trivial⟩
set_option maxHeartbeats 4000000 in
set_option maxRecDepth 100000 in
theorem w_X7_isTrue_40 {l : Launch} {G : GL} {ad : Nat → Nat} {MM : Mem} {X : CT} (hX : Cx l { frames := 0, cells := 0, slots := 0, locals := 0 } cX7_isTrue RX7 5 (some .boolean) G ad X) {k2 : Int32 → Int32 → Mem → Option Rv} (hk2 : ∀ (x1 : Int32) (x2 : Int32) (M : Mem) {L : List (Option Value)}, lsub [some (.ref (ad 218)), some (.int x1), some (.int x2), none, none] L → KF l { frames := 0, cells := 0, slots := 0, locals := 0 } 5 G ad (EM G ad MM) (QP PostI G ad (EM G ad MM)) X (k2 x1 x2 M) L 2 [] M) : ∀ (x1 : Int32) (x2 : Int32) (s0 : Int32) (M : Mem) {L : List (Option Value)}, lsub [some (.ref (ad 218)), some (.int x1), some (.int x2), none, none] L → KF l { frames := 0, cells := 0, slots := 0, locals := 0 } 5 G ad (EM G ad MM) (QP PostI G ad (EM G ad MM)) X (f_X7_isTrue_40 k2 x1 x2 s0 M) L 40 [.int s0, .ref (ad 227)] M := by
  intro x1 x2 s0 M L hL
  unfold f_X7_isTrue_40
  refine KF.locals (lsub_le hL) ?_
  refine k_iconst (v := (nI 1)) hX rfl dX7_isTrue_40 ?_
  refine k_goto (tgt := 45) hX dX7_isTrue_41 (by decide) ?_
  exact w_X7_isTrue_45 hX hk2 x1 x2 (nI 1) s0 M ⟨rfl, rfl, rfl, trivial⟩
set_option maxHeartbeats 4000000 in
set_option maxRecDepth 100000 in
theorem w_X7_isTrue_89 {l : Launch} {G : GL} {ad : Nat → Nat} {MM : Mem} {X : CT} (hX : Cx l { frames := 0, cells := 0, slots := 0, locals := 0 } cX7_isTrue RX7 5 (some .boolean) G ad X) {k2 : Int32 → Int32 → Mem → Option Rv} (hk2 : ∀ (x1 : Int32) (x2 : Int32) (M : Mem) {L : List (Option Value)}, lsub [some (.ref (ad 218)), some (.int x1), some (.int x2), none, none] L → KF l { frames := 0, cells := 0, slots := 0, locals := 0 } 5 G ad (EM G ad MM) (QP PostI G ad (EM G ad MM)) X (k2 x1 x2 M) L 2 [] M) : ∀ (x1 : Int32) (x2 : Int32) (s0 : Int32) (s1 : Int32) (M : Mem) {L : List (Option Value)}, lsub [some (.ref (ad 218)), some (.int x1), some (.int x2), none, none] L → KF l { frames := 0, cells := 0, slots := 0, locals := 0 } 5 G ad (EM G ad MM) (QP PostI G ad (EM G ad MM)) X (f_X7_isTrue_89 k2 x1 x2 s0 s1 M) L 89 [.int s0, .int s1, .ref (ad 227)] M := by
  intro x1 x2 s0 s1 M L hL
  unfold f_X7_isTrue_89
  refine KF.locals (lsub_le hL) ?_
  refine k_ast hX locM ia_227 dX7_isTrue_89 (fun M1 => ?_)
  refine k_goto (tgt := 175) hX dX7_isTrue_90 (by decide) ?_
  exact w_X7_isTrue_175 hX hk2 x1 x2 M1 ⟨rfl, rfl, rfl, trivial⟩
set_option maxHeartbeats 4000000 in
set_option maxRecDepth 100000 in
theorem w_X7_isTrue_84 {l : Launch} {G : GL} {ad : Nat → Nat} {MM : Mem} {X : CT} (hX : Cx l { frames := 0, cells := 0, slots := 0, locals := 0 } cX7_isTrue RX7 5 (some .boolean) G ad X) {k2 : Int32 → Int32 → Mem → Option Rv} (hk2 : ∀ (x1 : Int32) (x2 : Int32) (M : Mem) {L : List (Option Value)}, lsub [some (.ref (ad 218)), some (.int x1), some (.int x2), none, none] L → KF l { frames := 0, cells := 0, slots := 0, locals := 0 } 5 G ad (EM G ad MM) (QP PostI G ad (EM G ad MM)) X (k2 x1 x2 M) L 2 [] M) : ∀ (x1 : Int32) (x2 : Int32) (s0 : Int32) (M : Mem) {L : List (Option Value)}, lsub [some (.ref (ad 218)), some (.int x1), some (.int x2), none, none] L → KF l { frames := 0, cells := 0, slots := 0, locals := 0 } 5 G ad (EM G ad MM) (QP PostI G ad (EM G ad MM)) X (f_X7_isTrue_84 k2 x1 x2 s0 M) L 84 [.int s0, .ref (ad 227)] M := by
  intro x1 x2 s0 M L hL
  unfold f_X7_isTrue_84
  refine KF.locals (lsub_le hL) ?_
  refine k_iconst (v := (nI 1)) hX rfl dX7_isTrue_84 ?_
  refine k_goto (tgt := 89) hX dX7_isTrue_85 (by decide) ?_
  exact w_X7_isTrue_89 hX hk2 x1 x2 (nI 1) s0 M ⟨rfl, rfl, rfl, trivial⟩
set_option maxHeartbeats 4000000 in
set_option maxRecDepth 100000 in
theorem w_X7_isTrue_174 {l : Launch} {G : GL} {ad : Nat → Nat} {MM : Mem} {X : CT} (hX : Cx l { frames := 0, cells := 0, slots := 0, locals := 0 } cX7_isTrue RX7 5 (some .boolean) G ad X) {k2 : Int32 → Int32 → Mem → Option Rv} (hk2 : ∀ (x1 : Int32) (x2 : Int32) (M : Mem) {L : List (Option Value)}, lsub [some (.ref (ad 218)), some (.int x1), some (.int x2), none, none] L → KF l { frames := 0, cells := 0, slots := 0, locals := 0 } 5 G ad (EM G ad MM) (QP PostI G ad (EM G ad MM)) X (k2 x1 x2 M) L 2 [] M) : ∀ (x1 : Int32) (x2 : Int32) (s0 : Int32) (s1 : Int32) (M : Mem) {L : List (Option Value)}, lsub [some (.ref (ad 218)), some (.int x1), some (.int x2), none, none] L → KF l { frames := 0, cells := 0, slots := 0, locals := 0 } 5 G ad (EM G ad MM) (QP PostI G ad (EM G ad MM)) X (f_X7_isTrue_174 k2 x1 x2 s0 s1 M) L 174 [.int s0, .int s1, .ref (ad 227)] M := by
  intro x1 x2 s0 s1 M L hL
  unfold f_X7_isTrue_174
  refine KF.locals (lsub_le hL) ?_
  refine k_ast hX locM ia_227 dX7_isTrue_174 (fun M1 => ?_)
  exact w_X7_isTrue_175 hX hk2 x1 x2 M1 ⟨rfl, rfl, rfl, trivial⟩
set_option maxHeartbeats 4000000 in
set_option maxRecDepth 100000 in
theorem w_X7_isTrue_169 {l : Launch} {G : GL} {ad : Nat → Nat} {MM : Mem} {X : CT} (hX : Cx l { frames := 0, cells := 0, slots := 0, locals := 0 } cX7_isTrue RX7 5 (some .boolean) G ad X) {k2 : Int32 → Int32 → Mem → Option Rv} (hk2 : ∀ (x1 : Int32) (x2 : Int32) (M : Mem) {L : List (Option Value)}, lsub [some (.ref (ad 218)), some (.int x1), some (.int x2), none, none] L → KF l { frames := 0, cells := 0, slots := 0, locals := 0 } 5 G ad (EM G ad MM) (QP PostI G ad (EM G ad MM)) X (k2 x1 x2 M) L 2 [] M) : ∀ (x1 : Int32) (x2 : Int32) (s0 : Int32) (M : Mem) {L : List (Option Value)}, lsub [some (.ref (ad 218)), some (.int x1), some (.int x2), none, none] L → KF l { frames := 0, cells := 0, slots := 0, locals := 0 } 5 G ad (EM G ad MM) (QP PostI G ad (EM G ad MM)) X (f_X7_isTrue_169 k2 x1 x2 s0 M) L 169 [.int s0, .ref (ad 227)] M := by
  intro x1 x2 s0 M L hL
  unfold f_X7_isTrue_169
  refine KF.locals (lsub_le hL) ?_
  refine k_iconst (v := (nI 1)) hX rfl dX7_isTrue_169 ?_
  refine k_goto (tgt := 174) hX dX7_isTrue_170 (by decide) ?_
  exact w_X7_isTrue_174 hX hk2 x1 x2 (nI 1) s0 M ⟨rfl, rfl, rfl, trivial⟩
set_option maxHeartbeats 4000000 in
set_option maxRecDepth 100000 in
theorem w_X7_isTrue_173 {l : Launch} {G : GL} {ad : Nat → Nat} {MM : Mem} {X : CT} (hX : Cx l { frames := 0, cells := 0, slots := 0, locals := 0 } cX7_isTrue RX7 5 (some .boolean) G ad X) {k2 : Int32 → Int32 → Mem → Option Rv} (hk2 : ∀ (x1 : Int32) (x2 : Int32) (M : Mem) {L : List (Option Value)}, lsub [some (.ref (ad 218)), some (.int x1), some (.int x2), none, none] L → KF l { frames := 0, cells := 0, slots := 0, locals := 0 } 5 G ad (EM G ad MM) (QP PostI G ad (EM G ad MM)) X (k2 x1 x2 M) L 2 [] M) : ∀ (x1 : Int32) (x2 : Int32) (s0 : Int32) (M : Mem) {L : List (Option Value)}, lsub [some (.ref (ad 218)), some (.int x1), some (.int x2), none, none] L → KF l { frames := 0, cells := 0, slots := 0, locals := 0 } 5 G ad (EM G ad MM) (QP PostI G ad (EM G ad MM)) X (f_X7_isTrue_173 k2 x1 x2 s0 M) L 173 [.int s0, .ref (ad 227)] M := by
  intro x1 x2 s0 M L hL
  unfold f_X7_isTrue_173
  refine KF.locals (lsub_le hL) ?_
  refine k_iconst (v := (nI 0)) hX rfl dX7_isTrue_173 ?_
  exact w_X7_isTrue_174 hX hk2 x1 x2 (nI 0) s0 M ⟨rfl, rfl, rfl, trivial⟩
set_option maxHeartbeats 4000000 in
set_option maxRecDepth 100000 in
theorem w_X7_isTrue_98 {l : Launch} {G : GL} {ad : Nat → Nat} {MM : Mem} {X : CT} (hX : Cx l { frames := 0, cells := 0, slots := 0, locals := 0 } cX7_isTrue RX7 5 (some .boolean) G ad X) {k2 : Int32 → Int32 → Mem → Option Rv} (hk2 : ∀ (x1 : Int32) (x2 : Int32) (M : Mem) {L : List (Option Value)}, lsub [some (.ref (ad 218)), some (.int x1), some (.int x2), none, none] L → KF l { frames := 0, cells := 0, slots := 0, locals := 0 } 5 G ad (EM G ad MM) (QP PostI G ad (EM G ad MM)) X (k2 x1 x2 M) L 2 [] M) : ∀ (n : Nat), ∀ (x1 : Int32) (x2 : Int32) (x3 : Int32) (x4 : Int32) (M : Mem) {L : List (Option Value)}, lsub [some (.ref (ad 218)), some (.int x1), some (.int x2), some (.int x3), some (.int x4)] L → KF l { frames := 0, cells := 0, slots := 0, locals := 0 } 5 G ad (EM G ad MM) (QP PostI G ad (EM G ad MM)) X (f_X7_isTrue_98 k2 n x1 x2 x3 x4 M) L 98 [] M := by
  intro n
  induction n with
  | zero =>
    intro x1 x2 x3 x4 M L hL
    exact KF.none'
  | succ n ih =>
    intro x1 x2 x3 x4 M L hL
    rw [f_X7_isTrue_98]
    refine KF.locals (lsub_le hL) ?_
    refine k_iload hX rfl dX7_isTrue_98 ?_
    refine k_aload_n hX (i := 0) rfl rfl dX7_isTrue_100 ?_
    refine k_get hX io_218 fl_X7_26 rfl dX7_isTrue_101 ?_
    refine k_iload_n hX (i := 2) rfl rfl dX7_isTrue_104 ?_
    refine k_ald hX ia_224 dX7_isTrue_105 (fun v1 => ?_)
    refine k_icmp_ge (tgt := 137) hX dX7_isTrue_106 (by decide) (fun b2 => ?_) (fun b2 => ?_)
    · refine k_aload_n hX (i := 0) rfl rfl dX7_isTrue_137 ?_
      refine k_get hX io_218 fl_X7_35 rfl dX7_isTrue_138 ?_
      refine k_iload_n hX (i := 2) rfl rfl dX7_isTrue_141 ?_
      refine k_aload_n hX (i := 0) rfl rfl dX7_isTrue_142 ?_
      refine k_get hX io_218 fl_X7_20 rfl dX7_isTrue_143 ?_
      refine k_iload_n hX (i := 2) rfl rfl dX7_isTrue_146 ?_
      refine k_ald hX ia_222 dX7_isTrue_147 (fun v3 => ?_)
      refine k_iconst (v := (nI 5)) hX rfl dX7_isTrue_148 ?_
      refine k_icmp_ne (tgt := 165) hX dX7_isTrue_149 (by decide) (fun b4 => ?_) (fun b4 => ?_)
      · refine k_iload_n hX (i := 3) rfl rfl dX7_isTrue_165 ?_
        refine k_if_le (tgt := 173) hX dX7_isTrue_166 (by decide) (fun b5 => ?_) (fun b5 => ?_)
        · exact w_X7_isTrue_173 hX hk2 x1 x2 x2 M ⟨rfl, rfl, rfl, trivial⟩
        exact w_X7_isTrue_169 hX hk2 x1 x2 x2 M ⟨rfl, rfl, rfl, trivial⟩
      refine k_iload_n hX (i := 3) rfl rfl dX7_isTrue_152 ?_
      refine k_aload_n hX (i := 0) rfl rfl dX7_isTrue_153 ?_
      refine k_get hX io_218 fl_X7_26 rfl dX7_isTrue_154 ?_
      refine k_iload_n hX (i := 2) rfl rfl dX7_isTrue_157 ?_
      refine k_ald hX ia_224 dX7_isTrue_158 (fun v6 => ?_)
      refine k_icmp_ne (tgt := 173) hX dX7_isTrue_159 (by decide) (fun b7 => ?_) (fun b7 => ?_)
      · exact w_X7_isTrue_173 hX hk2 x1 x2 x2 M ⟨rfl, rfl, rfl, trivial⟩
      refine k_goto (tgt := 169) hX dX7_isTrue_162 (by decide) ?_
      exact w_X7_isTrue_169 hX hk2 x1 x2 x2 M ⟨rfl, rfl, rfl, trivial⟩
    refine k_iload_n hX (i := 3) rfl rfl dX7_isTrue_109 ?_
    refine k_aload_n hX (i := 0) rfl rfl dX7_isTrue_110 ?_
    refine k_get hX io_218 fl_X7_35 rfl dX7_isTrue_111 ?_
    refine k_aload_n hX (i := 0) rfl rfl dX7_isTrue_114 ?_
    refine k_get hX io_218 fl_X7_43 rfl dX7_isTrue_115 ?_
    refine k_aload_n hX (i := 0) rfl rfl dX7_isTrue_118 ?_
    refine k_get hX io_218 fl_X7_23 rfl dX7_isTrue_119 ?_
    refine k_iload_n hX (i := 2) rfl rfl dX7_isTrue_122 ?_
    refine k_ald hX ia_223 dX7_isTrue_123 (fun v8 => ?_)
    refine k_iload hX rfl dX7_isTrue_124 ?_
    refine k_iadd hX dX7_isTrue_126 ?_
    refine k_ald hX ia_229 dX7_isTrue_127 (fun v9 => ?_)
    refine k_ald hX ia_227 dX7_isTrue_128 (fun v10 => ?_)
    refine k_iadd hX dX7_isTrue_129 ?_
    refine k_istore_n (L' := [some (.ref (ad 218)), some (.int x1), some (.int x2), some (.int (x3 + v10)), some (.int x4)]) hX (i := 3) rfl (by decide) rfl dX7_isTrue_130 ?_
    refine k_iinc (v := x4 + nI 1) (L' := [some (.ref (ad 218)), some (.int x1), some (.int x2), some (.int (x3 + v10)), some (.int (x4 + nI 1))]) hX (i := 4) rfl rfl (by decide) rfl dX7_isTrue_131 ?_
    refine k_goto (tgt := 98) hX dX7_isTrue_134 (by decide) ?_
    exact ih x1 x2 (x3 + v10) (x4 + nI 1) M ⟨rfl, rfl, rfl, rfl, rfl, trivial⟩
set_option maxHeartbeats 4000000 in
set_option maxRecDepth 100000 in
theorem w_X7_isTrue_13 {l : Launch} {G : GL} {ad : Nat → Nat} {MM : Mem} {X : CT} (hX : Cx l { frames := 0, cells := 0, slots := 0, locals := 0 } cX7_isTrue RX7 5 (some .boolean) G ad X) {k2 : Int32 → Int32 → Mem → Option Rv} (hk2 : ∀ (x1 : Int32) (x2 : Int32) (M : Mem) {L : List (Option Value)}, lsub [some (.ref (ad 218)), some (.int x1), some (.int x2), none, none] L → KF l { frames := 0, cells := 0, slots := 0, locals := 0 } 5 G ad (EM G ad MM) (QP PostI G ad (EM G ad MM)) X (k2 x1 x2 M) L 2 [] M) : ∀ (x1 : Int32) (x2 : Int32) (M : Mem) {L : List (Option Value)}, lsub [some (.ref (ad 218)), some (.int x1), some (.int x2), none, none] L → KF l { frames := 0, cells := 0, slots := 0, locals := 0 } 5 G ad (EM G ad MM) (QP PostI G ad (EM G ad MM)) X (f_X7_isTrue_13 k2 x1 x2 M) L 13 [] M := by
  intro x1 x2 M L hL
  unfold f_X7_isTrue_13
  refine KF.locals (lsub_le hL) ?_
  refine k_iload_n hX (i := 2) rfl rfl dX7_isTrue_13 ?_
  refine k_bipush (v := (nI 16)) hX rfl dX7_isTrue_14 ?_
  refine k_icmp_ge (tgt := 49) hX dX7_isTrue_16 (by decide) (fun b1 => ?_) (fun b1 => ?_)
  · refine k_aload_n hX (i := 0) rfl rfl dX7_isTrue_49 ?_
    refine k_get hX io_218 fl_X7_20 rfl dX7_isTrue_50 ?_
    refine k_iload_n hX (i := 2) rfl rfl dX7_isTrue_53 ?_
    refine k_ald hX ia_222 dX7_isTrue_54 (fun v2 => ?_)
    refine k_iconst (v := (nI 5)) hX rfl dX7_isTrue_55 ?_
    refine k_icmp_ge (tgt := 93) hX dX7_isTrue_56 (by decide) (fun b3 => ?_) (fun b3 => ?_)
    · refine k_iconst (v := (nI 0)) hX rfl dX7_isTrue_93 ?_
      refine k_istore_n (L' := [some (.ref (ad 218)), some (.int x1), some (.int x2), some (.int (nI 0)), none]) hX (i := 3) rfl (by decide) rfl dX7_isTrue_94 ?_
      refine k_iconst (v := (nI 0)) hX rfl dX7_isTrue_95 ?_
      refine k_istore (L' := [some (.ref (ad 218)), some (.int x1), some (.int x2), some (.int (nI 0)), some (.int (nI 0))]) hX (by decide) rfl dX7_isTrue_96 ?_
      exact w_X7_isTrue_98 hX hk2 fuelN x1 x2 (nI 0) (nI 0) M ⟨rfl, rfl, rfl, rfl, rfl, trivial⟩
    refine k_aload_n hX (i := 0) rfl rfl dX7_isTrue_59 ?_
    refine k_get hX io_218 fl_X7_35 rfl dX7_isTrue_60 ?_
    refine k_iload_n hX (i := 2) rfl rfl dX7_isTrue_63 ?_
    refine k_aload_n hX (i := 0) rfl rfl dX7_isTrue_64 ?_
    refine k_get hX io_218 fl_X7_20 rfl dX7_isTrue_65 ?_
    refine k_iload_n hX (i := 2) rfl rfl dX7_isTrue_68 ?_
    refine k_ald hX ia_222 dX7_isTrue_69 (fun v4 => ?_)
    refine k_iconst (v := (nI 2)) hX rfl dX7_isTrue_70 ?_
    refine k_icmp_eq (tgt := 84) hX dX7_isTrue_71 (by decide) (fun b5 => ?_) (fun b5 => ?_)
    · exact w_X7_isTrue_84 hX hk2 x1 x2 x2 M ⟨rfl, rfl, rfl, trivial⟩
    refine k_aload_n hX (i := 0) rfl rfl dX7_isTrue_74 ?_
    refine k_get hX io_218 fl_X7_20 rfl dX7_isTrue_75 ?_
    refine k_iload_n hX (i := 2) rfl rfl dX7_isTrue_78 ?_
    refine k_ald hX ia_222 dX7_isTrue_79 (fun v6 => ?_)
    refine k_iconst (v := (nI 4)) hX rfl dX7_isTrue_80 ?_
    refine k_icmp_ne (tgt := 88) hX dX7_isTrue_81 (by decide) (fun b7 => ?_) (fun b7 => ?_)
    · refine k_iconst (v := (nI 0)) hX rfl dX7_isTrue_88 ?_
      exact w_X7_isTrue_89 hX hk2 x1 x2 (nI 0) x2 M ⟨rfl, rfl, rfl, trivial⟩
    exact w_X7_isTrue_84 hX hk2 x1 x2 x2 M ⟨rfl, rfl, rfl, trivial⟩
  refine k_aload_n hX (i := 0) rfl rfl dX7_isTrue_19 ?_
  refine k_get hX io_218 fl_X7_35 rfl dX7_isTrue_20 ?_
  refine k_iload_n hX (i := 2) rfl rfl dX7_isTrue_23 ?_
  refine k_iload_n hX (i := 2) rfl rfl dX7_isTrue_24 ?_
  refine k_iconst (v := (nI 1)) hX rfl dX7_isTrue_25 ?_
  refine k_icmp_eq (tgt := 40) hX dX7_isTrue_26 (by decide) (fun b8 => ?_) (fun b8 => ?_)
  · exact w_X7_isTrue_40 hX hk2 x1 x2 x2 M ⟨rfl, rfl, rfl, trivial⟩
  refine k_iload_n hX (i := 2) rfl rfl dX7_isTrue_29 ?_
  refine k_iconst (v := (nI 3)) hX rfl dX7_isTrue_30 ?_
  refine k_icmp_eq (tgt := 40) hX dX7_isTrue_31 (by decide) (fun b9 => ?_) (fun b9 => ?_)
  · exact w_X7_isTrue_40 hX hk2 x1 x2 x2 M ⟨rfl, rfl, rfl, trivial⟩
  refine k_iload_n hX (i := 2) rfl rfl dX7_isTrue_34 ?_
  refine k_bipush (v := (nI 10)) hX rfl dX7_isTrue_35 ?_
  refine k_icmp_lt (tgt := 44) hX dX7_isTrue_37 (by decide) (fun b10 => ?_) (fun b10 => ?_)
  · refine k_iconst (v := (nI 0)) hX rfl dX7_isTrue_44 ?_
    exact w_X7_isTrue_45 hX hk2 x1 x2 (nI 0) x2 M ⟨rfl, rfl, rfl, trivial⟩
  exact w_X7_isTrue_40 hX hk2 x1 x2 x2 M ⟨rfl, rfl, rfl, trivial⟩
set_option maxHeartbeats 4000000 in
set_option maxRecDepth 100000 in
theorem w_X7_isTrue_196 {l : Launch} {G : GL} {ad : Nat → Nat} {MM : Mem} {X : CT} (hX : Cx l { frames := 0, cells := 0, slots := 0, locals := 0 } cX7_isTrue RX7 5 (some .boolean) G ad X) : ∀ (s0 : Int32) (M : Mem) {L : List (Option Value)}, lsub [none, none, none, none, none] L → KF l { frames := 0, cells := 0, slots := 0, locals := 0 } 5 G ad (EM G ad MM) (QP PostI G ad (EM G ad MM)) X (f_X7_isTrue_196 s0 M) L 196 [.int s0] M := by
  intro s0 M L hL
  unfold f_X7_isTrue_196
  refine KF.locals (lsub_le hL) ?_
  exact k_zret hX dX7_isTrue_196
set_option maxHeartbeats 4000000 in
set_option maxRecDepth 100000 in
theorem w_X7_isTrue_2 {l : Launch} {G : GL} {ad : Nat → Nat} {MM : Mem} {X : CT} (hX : Cx l { frames := 0, cells := 0, slots := 0, locals := 0 } cX7_isTrue RX7 5 (some .boolean) G ad X) : ∀ (n : Nat), ∀ (x1 : Int32) (x2 : Int32) (M : Mem) {L : List (Option Value)}, lsub [some (.ref (ad 218)), some (.int x1), some (.int x2), none, none] L → KF l { frames := 0, cells := 0, slots := 0, locals := 0 } 5 G ad (EM G ad MM) (QP PostI G ad (EM G ad MM)) X (f_X7_isTrue_2 n x1 x2 M) L 2 [] M := by
  intro n
  induction n with
  | zero =>
    intro x1 x2 M L hL
    exact KF.none'
  | succ n ih =>
    intro x1 x2 M L hL
    rw [f_X7_isTrue_2]
    refine KF.locals (lsub_le hL) ?_
    refine k_iload_n hX (i := 2) rfl rfl dX7_isTrue_2 ?_
    refine k_iload_n hX (i := 1) rfl rfl dX7_isTrue_3 ?_
    refine k_icmp_le (tgt := 13) hX dX7_isTrue_4 (by decide) (fun b1 => ?_) (fun b1 => ?_)
    · exact w_X7_isTrue_13 hX ih x1 x2 M ⟨rfl, rfl, rfl, trivial⟩
    refine k_iload_n hX (i := 2) rfl rfl dX7_isTrue_7 ?_
    refine k_bipush (v := (nI 16)) hX rfl dX7_isTrue_8 ?_
    refine k_icmp_ge (tgt := 181) hX dX7_isTrue_10 (by decide) (fun b2 => ?_) (fun b2 => ?_)
    · refine k_aload_n hX (i := 0) rfl rfl dX7_isTrue_181 ?_
      refine k_get hX io_218 fl_X7_35 rfl dX7_isTrue_182 ?_
      refine k_iload_n hX (i := 1) rfl rfl dX7_isTrue_185 ?_
      refine k_ald hX ia_227 dX7_isTrue_186 (fun v3 => ?_)
      refine k_iconst (v := (nI 1)) hX rfl dX7_isTrue_187 ?_
      refine k_icmp_ne (tgt := 195) hX dX7_isTrue_188 (by decide) (fun b4 => ?_) (fun b4 => ?_)
      · refine k_iconst (v := (nI 0)) hX rfl dX7_isTrue_195 ?_
        exact w_X7_isTrue_196 hX (nI 0) M trivial
      refine k_iconst (v := (nI 1)) hX rfl dX7_isTrue_191 ?_
      refine k_goto (tgt := 196) hX dX7_isTrue_192 (by decide) ?_
      exact w_X7_isTrue_196 hX (nI 1) M trivial
    exact w_X7_isTrue_13 hX ih x1 x2 M ⟨rfl, rfl, rfl, trivial⟩
set_option maxHeartbeats 4000000 in
set_option maxRecDepth 100000 in
theorem w_X7_isTrue {l : Launch} {G : GL} {ad : Nat → Nat} {MM : Mem} {X : CT} (hX : Cx l { frames := 0, cells := 0, slots := 0, locals := 0 } cX7_isTrue RX7 5 (some .boolean) G ad X) {p1 : Int32} {M : Mem} : KF l { frames := 0, cells := 0, slots := 0, locals := 0 } 5 G ad (EM G ad MM) (QP PostI G ad (EM G ad MM)) X (f_X7_isTrue p1 M) [some (.ref (ad 218)), some (.int p1), none, none, none] 0 [] M := by
  unfold f_X7_isTrue
  refine k_iconst (v := (nI 0)) hX rfl dX7_isTrue_0 ?_
  refine k_istore_n (L' := [some (.ref (ad 218)), some (.int p1), some (.int (nI 0)), none, none]) hX (i := 2) rfl (by decide) rfl dX7_isTrue_1 ?_
  exact w_X7_isTrue_2 hX fuelN p1 (nI 0) M ⟨rfl, rfl, rfl, trivial⟩
set_option maxRecDepth 100000 in
theorem m_X7_isTrue {l : Launch} {G : GL} {ad : Nat → Nat} {MM : Mem} (hAd : AdOK G ad) {p1 : Int32} {M : Mem} {r : Rv} (h : f_X7_isTrue p1 M = some r) : Ct PostI l G ad (EM G ad MM) yX7_isTrue cX7_isTrue 5 (some .boolean) 0 0 [.ref (ad 218), .int p1] M r := ct_of' hAd (by decide +kernel) (List.forall_mem_cons.mpr ⟨rfl, (List.forall_mem_cons.mpr ⟨rfl, (fun _ h => absurd h List.not_mem_nil)⟩)⟩) (Nat.le_of_ble_eq_true rfl) (L := [some (.ref (ad 218)), some (.int p1), none, none, none]) rfl (fun _ hX => w_X7_isTrue hX) h
set_option maxHeartbeats 4000000 in
set_option maxRecDepth 100000 in
theorem w_X7_store_249 {l : Launch} {G : GL} {ad : Nat → Nat} {MM : Mem} {X : CT} (hX : Cx l { frames := 2, cells := 0, slots := 0, locals := 45 } cX7_store RX7 9 none G ad X) {k41 : Int32 → Int32 → Int32 → Int32 → Int32 → Int32 → Mem → Option Rv} (hk41 : ∀ (x1 : Int32) (x2 : Int32) (x3 : Int32) (x4 : Int32) (x5 : Int32) (x6 : Int32) (M : Mem) {L : List (Option Value)}, lsub [some (.ref (ad 218)), some (.int x1), some (.int x2), some (.int x3), some (.int x4), some (.int x5), some (.int x6), none, none] L → KF l { frames := 2, cells := 0, slots := 0, locals := 45 } 9 G ad (EM G ad MM) (QP PostV G ad (EM G ad MM)) X (k41 x1 x2 x3 x4 x5 x6 M) L 41 [] M) : ∀ (x1 : Int32) (x2 : Int32) (x3 : Int32) (x4 : Int32) (x5 : Int32) (x6 : Int32) (M : Mem) {L : List (Option Value)}, lsub [some (.ref (ad 218)), some (.int x1), some (.int x2), some (.int x3), some (.int x4), some (.int x5), some (.int x6), none, none] L → KF l { frames := 2, cells := 0, slots := 0, locals := 45 } 9 G ad (EM G ad MM) (QP PostV G ad (EM G ad MM)) X (f_X7_store_249 k41 x1 x2 x3 x4 x5 x6 M) L 249 [] M := by
  intro x1 x2 x3 x4 x5 x6 M L hL
  unfold f_X7_store_249
  refine KF.locals (lsub_le hL) ?_
  refine k_iinc (v := x6 + nI 1) (L' := [some (.ref (ad 218)), some (.int x1), some (.int x2), some (.int x3), some (.int x4), some (.int x5), some (.int (x6 + nI 1)), none, none]) hX (i := 6) rfl rfl (by decide) rfl dX7_store_249 ?_
  refine k_goto (tgt := 41) hX dX7_store_252 (by decide) ?_
  exact hk41 x1 x2 x3 x4 x5 (x6 + nI 1) M ⟨rfl, rfl, rfl, rfl, rfl, rfl, rfl, trivial⟩
set_option maxHeartbeats 4000000 in
set_option maxRecDepth 100000 in
theorem w_X7_store_246 {l : Launch} {G : GL} {ad : Nat → Nat} {MM : Mem} {X : CT} (hX : Cx l { frames := 2, cells := 0, slots := 0, locals := 45 } cX7_store RX7 9 none G ad X) {k41 : Int32 → Int32 → Int32 → Int32 → Int32 → Int32 → Mem → Option Rv} (hk41 : ∀ (x1 : Int32) (x2 : Int32) (x3 : Int32) (x4 : Int32) (x5 : Int32) (x6 : Int32) (M : Mem) {L : List (Option Value)}, lsub [some (.ref (ad 218)), some (.int x1), some (.int x2), some (.int x3), some (.int x4), some (.int x5), some (.int x6), none, none] L → KF l { frames := 2, cells := 0, slots := 0, locals := 45 } 9 G ad (EM G ad MM) (QP PostV G ad (EM G ad MM)) X (k41 x1 x2 x3 x4 x5 x6 M) L 41 [] M) : ∀ (x1 : Int32) (x2 : Int32) (x3 : Int32) (x4 : Int32) (x5 : Int32) (x6 : Int32) (M : Mem) {L : List (Option Value)}, lsub [some (.ref (ad 218)), some (.int x1), some (.int x2), some (.int x3), some (.int x4), some (.int x5), some (.int x6), none, none] L → KF l { frames := 2, cells := 0, slots := 0, locals := 45 } 9 G ad (EM G ad MM) (QP PostV G ad (EM G ad MM)) X (f_X7_store_246 k41 x1 x2 x3 x4 x5 x6 M) L 246 [] M := by
  intro x1 x2 x3 x4 x5 x6 M L hL
  unfold f_X7_store_246
  refine KF.locals (lsub_le hL) ?_
  refine k_iinc (v := x4 + nI 1) (L' := [some (.ref (ad 218)), some (.int x1), some (.int x2), some (.int x3), some (.int (x4 + nI 1)), some (.int x5), some (.int x6), none, none]) hX (i := 4) rfl rfl (by decide) rfl dX7_store_246 ?_
  exact w_X7_store_249 hX hk41 x1 x2 x3 (x4 + nI 1) x5 x6 M ⟨rfl, rfl, rfl, rfl, rfl, rfl, rfl, trivial⟩
set_option maxHeartbeats 4000000 in
set_option maxRecDepth 100000 in
theorem w_X7_store_178 {l : Launch} {G : GL} {ad : Nat → Nat} {MM : Mem} {X : CT} (hX : Cx l { frames := 2, cells := 0, slots := 0, locals := 45 } cX7_store RX7 9 none G ad X) {k41 : Int32 → Int32 → Int32 → Int32 → Int32 → Int32 → Mem → Option Rv} (hk41 : ∀ (x1 : Int32) (x2 : Int32) (x3 : Int32) (x4 : Int32) (x5 : Int32) (x6 : Int32) (M : Mem) {L : List (Option Value)}, lsub [some (.ref (ad 218)), some (.int x1), some (.int x2), some (.int x3), some (.int x4), some (.int x5), some (.int x6), none, none] L → KF l { frames := 2, cells := 0, slots := 0, locals := 45 } 9 G ad (EM G ad MM) (QP PostV G ad (EM G ad MM)) X (k41 x1 x2 x3 x4 x5 x6 M) L 41 [] M) : ∀ (n : Nat), ∀ (x1 : Int32) (x2 : Int32) (x3 : Int32) (x4 : Int32) (x5 : Int32) (x6 : Int32) (x8 : Int32) (M : Mem) {L : List (Option Value)}, lsub [some (.ref (ad 218)), some (.int x1), some (.int x2), some (.int x3), some (.int x4), some (.int x5), some (.int x6), none, some (.int x8)] L → KF l { frames := 2, cells := 0, slots := 0, locals := 45 } 9 G ad (EM G ad MM) (QP PostV G ad (EM G ad MM)) X (f_X7_store_178 k41 n x1 x2 x3 x4 x5 x6 x8 M) L 178 [] M := by
  intro n
  induction n with
  | zero =>
    intro x1 x2 x3 x4 x5 x6 x8 M L hL
    exact KF.none'
  | succ n ih =>
    intro x1 x2 x3 x4 x5 x6 x8 M L hL
    rw [f_X7_store_178]
    refine KF.locals (lsub_le hL) ?_
    refine k_iload hX rfl dX7_store_178 ?_
    refine k_aload_n hX (i := 0) rfl rfl dX7_store_180 ?_
    refine k_get hX io_218 fl_X7_26 rfl dX7_store_181 ?_
    refine k_iload hX rfl dX7_store_184 ?_
    refine k_ald hX ia_224 dX7_store_186 (fun v1 => ?_)
    refine k_icmp_ge (tgt := 246) hX dX7_store_187 (by decide) (fun b2 => ?_) (fun b2 => ?_)
    · exact w_X7_store_246 hX hk41 x1 x2 x3 x4 x5 x6 M ⟨rfl, rfl, rfl, rfl, rfl, rfl, rfl, trivial⟩
    refine k_aload_n hX (i := 0) rfl rfl dX7_store_190 ?_
    refine k_get hX io_218 fl_X7_20 rfl dX7_store_191 ?_
    refine k_iload hX rfl dX7_store_194 ?_
    refine k_ald hX ia_222 dX7_store_196 (fun v3 => ?_)
    refine k_iconst (v := (nI 5)) hX rfl dX7_store_197 ?_
    refine k_icmp_lt (tgt := 246) hX dX7_store_198 (by decide) (fun b4 => ?_) (fun b4 => ?_)
    · exact w_X7_store_246 hX hk41 x1 x2 x3 x4 x5 x6 M ⟨rfl, rfl, rfl, rfl, rfl, rfl, rfl, trivial⟩
    refine k_aload_n hX (i := 0) rfl rfl dX7_store_201 ?_
    refine k_get hX io_218 fl_X7_7 rfl dX7_store_202 ?_
    refine k_iload_n hX (i := 1) rfl rfl dX7_store_205 ?_
    refine k_iload_n hX (i := 2) rfl rfl dX7_store_206 ?_
    refine k_sipush (v := (nI 362)) hX rfl dX7_store_207 ?_
    refine k_iload hX rfl dX7_store_210 ?_
    refine k_iadd hX dX7_store_212 ?_
    refine k_callSI (vs := [.int x1, .int x2, .int ((nI 362) + x5)]) hX (fun _ h9 => m_X7_cell hX.2.2.2.2.2.2.1  h9) ml_X7_150 ⟨Nat.le_of_ble_eq_true rfl, Nat.le_of_ble_eq_true rfl⟩ rfl rfl (Nat.le_of_ble_eq_true rfl) dX7_store_213 (fun q5 => ?_)
    refine k_aload_n hX (i := 0) rfl rfl dX7_store_216 ?_
    refine k_get hX io_218 fl_X7_35 rfl dX7_store_217 ?_
    refine k_aload_n hX (i := 0) rfl rfl dX7_store_220 ?_
    refine k_get hX io_218 fl_X7_43 rfl dX7_store_221 ?_
    refine k_aload_n hX (i := 0) rfl rfl dX7_store_224 ?_
    refine k_get hX io_218 fl_X7_23 rfl dX7_store_225 ?_
    refine k_iload hX rfl dX7_store_228 ?_
    refine k_ald hX ia_223 dX7_store_230 (fun v6 => ?_)
    refine k_iload hX rfl dX7_store_231 ?_
    refine k_iadd hX dX7_store_233 ?_
    refine k_ald hX ia_229 dX7_store_234 (fun v7 => ?_)
    refine k_ald hX ia_227 dX7_store_235 (fun v8 => ?_)
    refine k_ast hX locM ia_219 dX7_store_236 (fun M9 => ?_)
    refine k_iinc (v := x5 + nI 1) (L' := [some (.ref (ad 218)), some (.int x1), some (.int x2), some (.int x3), some (.int x4), some (.int (x5 + nI 1)), some (.int x6), none, some (.int x8)]) hX (i := 5) rfl rfl (by decide) rfl dX7_store_237 ?_
    refine k_iinc (v := x8 + nI 1) (L' := [some (.ref (ad 218)), some (.int x1), some (.int x2), some (.int x3), some (.int x4), some (.int (x5 + nI 1)), some (.int x6), none, some (.int (x8 + nI 1))]) hX (i := 8) rfl rfl (by decide) rfl dX7_store_240 ?_
    refine k_goto (tgt := 178) hX dX7_store_243 (by decide) ?_
    exact ih x1 x2 x3 x4 (x5 + nI 1) x6 (x8 + nI 1) M9 ⟨rfl, rfl, rfl, rfl, rfl, rfl, rfl, rfl, trivial⟩
set_option maxHeartbeats 4000000 in
set_option maxRecDepth 100000 in
theorem w_X7_store_174 {l : Launch} {G : GL} {ad : Nat → Nat} {MM : Mem} {X : CT} (hX : Cx l { frames := 2, cells := 0, slots := 0, locals := 45 } cX7_store RX7 9 none G ad X) {k41 : Int32 → Int32 → Int32 → Int32 → Int32 → Int32 → Mem → Option Rv} (hk41 : ∀ (x1 : Int32) (x2 : Int32) (x3 : Int32) (x4 : Int32) (x5 : Int32) (x6 : Int32) (M : Mem) {L : List (Option Value)}, lsub [some (.ref (ad 218)), some (.int x1), some (.int x2), some (.int x3), some (.int x4), some (.int x5), some (.int x6), none, none] L → KF l { frames := 2, cells := 0, slots := 0, locals := 45 } 9 G ad (EM G ad MM) (QP PostV G ad (EM G ad MM)) X (k41 x1 x2 x3 x4 x5 x6 M) L 41 [] M) : ∀ (x1 : Int32) (x2 : Int32) (x3 : Int32) (x4 : Int32) (x5 : Int32) (x6 : Int32) (s0 : Int32) (s1 : Int32) (M : Mem) {L : List (Option Value)}, lsub [some (.ref (ad 218)), some (.int x1), some (.int x2), some (.int x3), some (.int x4), some (.int x5), some (.int x6), none, none] L → KF l { frames := 2, cells := 0, slots := 0, locals := 45 } 9 G ad (EM G ad MM) (QP PostV G ad (EM G ad MM)) X (f_X7_store_174 k41 x1 x2 x3 x4 x5 x6 s0 s1 M) L 174 [.int s0, .int s1, .ref (ad 219)] M := by
  intro x1 x2 x3 x4 x5 x6 s0 s1 M L hL
  unfold f_X7_store_174
  refine KF.locals (lsub_le hL) ?_
  refine k_ast hX locM ia_219 dX7_store_174 (fun M1 => ?_)
  refine k_iconst (v := (nI 0)) hX rfl dX7_store_175 ?_
  refine k_istore (L' := [some (.ref (ad 218)), some (.int x1), some (.int x2), some (.int x3), some (.int x4), some (.int x5), some (.int x6), none, some (.int (nI 0))]) hX (by decide) rfl dX7_store_176 ?_
  exact w_X7_store_178 hX hk41 fuelN x1 x2 x3 x4 x5 x6 (nI 0) M1 ⟨rfl, rfl, rfl, rfl, rfl, rfl, rfl, rfl, trivial⟩
set_option maxHeartbeats 4000000 in
set_option maxRecDepth 100000 in
theorem w_X7_store_132 {l : Launch} {G : GL} {ad : Nat → Nat} {MM : Mem} {X : CT} (hX : Cx l { frames := 2, cells := 0, slots := 0, locals := 45 } cX7_store RX7 9 none G ad X) {k41 : Int32 → Int32 → Int32 → Int32 → Int32 → Int32 → Mem → Option Rv} (hk41 : ∀ (x1 : Int32) (x2 : Int32) (x3 : Int32) (x4 : Int32) (x5 : Int32) (x6 : Int32) (M : Mem) {L : List (Option Value)}, lsub [some (.ref (ad 218)), some (.int x1), some (.int x2), some (.int x3), some (.int x4), some (.int x5), some (.int x6), none, none] L → KF l { frames := 2, cells := 0, slots := 0, locals := 45 } 9 G ad (EM G ad MM) (QP PostV G ad (EM G ad MM)) X (k41 x1 x2 x3 x4 x5 x6 M) L 41 [] M) : ∀ (x1 : Int32) (x2 : Int32) (x3 : Int32) (x4 : Int32) (x5 : Int32) (x6 : Int32) (x7 : Int32) (s0 : Int32) (s1 : Int32) (M : Mem) {L : List (Option Value)}, lsub [some (.ref (ad 218)), some (.int x1), some (.int x2), some (.int x3), some (.int x4), some (.int x5), some (.int x6), some (.int x7), none] L → KF l { frames := 2, cells := 0, slots := 0, locals := 45 } 9 G ad (EM G ad MM) (QP PostV G ad (EM G ad MM)) X (f_X7_store_132 k41 x1 x2 x3 x4 x5 x6 x7 s0 s1 M) L 132 [.int s0, .int s1, .ref (ad 219)] M := by
  intro x1 x2 x3 x4 x5 x6 x7 s0 s1 M L hL
  unfold f_X7_store_132
  refine KF.locals (lsub_le hL) ?_
  refine k_ast hX locM ia_219 dX7_store_132 (fun M1 => ?_)
  refine k_aload_n hX (i := 0) rfl rfl dX7_store_133 ?_
  refine k_get hX io_218 fl_X7_7 rfl dX7_store_134 ?_
  refine k_iload hX rfl dX7_store_137 ?_
  refine k_iconst (v := (nI 2)) hX rfl dX7_store_139 ?_
  refine k_iadd hX dX7_store_140 ?_
  refine k_aload_n hX (i := 0) rfl rfl dX7_store_141 ?_
  refine k_get hX io_218 fl_X7_20 rfl dX7_store_142 ?_
  refine k_iload hX rfl dX7_store_145 ?_
  refine k_ald hX ia_222 dX7_store_147 (fun v2 => ?_)
  refine k_iconst (v := (nI 5)) hX rfl dX7_store_148 ?_
  refine k_icmp_lt (tgt := 162) hX dX7_store_149 (by decide) (fun b3 => ?_) (fun b3 => ?_)
  · refine k_aload_n hX (i := 0) rfl rfl dX7_store_162 ?_
    refine k_get hX io_218 fl_X7_35 rfl dX7_store_163 ?_
    refine k_aload_n hX (i := 0) rfl rfl dX7_store_166 ?_
    refine k_get hX io_218 fl_X7_26 rfl dX7_store_167 ?_
    refine k_iload hX rfl dX7_store_170 ?_
    refine k_ald hX ia_224 dX7_store_172 (fun v4 => ?_)
    refine k_ald hX ia_227 dX7_store_173 (fun v5 => ?_)
    exact w_X7_store_174 hX hk41 x1 x2 x3 x4 x5 x6 v5 (x7 + (nI 2)) M1 ⟨rfl, rfl, rfl, rfl, rfl, rfl, rfl, trivial⟩
  refine k_aload_n hX (i := 0) rfl rfl dX7_store_152 ?_
  refine k_get hX io_218 fl_X7_26 rfl dX7_store_153 ?_
  refine k_iload hX rfl dX7_store_156 ?_
  refine k_ald hX ia_224 dX7_store_158 (fun v6 => ?_)
  refine k_goto (tgt := 174) hX dX7_store_159 (by decide) ?_
  exact w_X7_store_174 hX hk41 x1 x2 x3 x4 x5 x6 v6 (x7 + (nI 2)) M1 ⟨rfl, rfl, rfl, rfl, rfl, rfl, rfl, trivial⟩
set_option maxHeartbeats 4000000 in
set_option maxRecDepth 100000 in
theorem w_X7_store_41 {l : Launch} {G : GL} {ad : Nat → Nat} {MM : Mem} {X : CT} (hX : Cx l { frames := 2, cells := 0, slots := 0, locals := 45 } cX7_store RX7 9 none G ad X) : ∀ (n : Nat), ∀ (x1 : Int32) (x2 : Int32) (x3 : Int32) (x4 : Int32) (x5 : Int32) (x6 : Int32) (M : Mem) {L : List (Option Value)}, lsub [some (.ref (ad 218)), some (.int x1), some (.int x2), some (.int x3), some (.int x4), some (.int x5), some (.int x6), none, none] L → KF l { frames := 2, cells := 0, slots := 0, locals := 45 } 9 G ad (EM G ad MM) (QP PostV G ad (EM G ad MM)) X (f_X7_store_41 n x1 x2 x3 x4 x5 x6 M) L 41 [] M := by
  intro n
  induction n with
  | zero =>
    intro x1 x2 x3 x4 x5 x6 M L hL
    exact KF.none'
  | succ n ih =>
    intro x1 x2 x3 x4 x5 x6 M L hL
    rw [f_X7_store_41]
    refine KF.locals (lsub_le hL) ?_
    refine k_iload hX rfl dX7_store_41 ?_
    refine k_iload_n hX (i := 3) rfl rfl dX7_store_43 ?_
    refine k_icmp_gt (tgt := 255) hX dX7_store_44 (by decide) (fun b1 => ?_) (fun b1 => ?_)
    · refine k_aload_n hX (i := 0) rfl rfl dX7_store_255 ?_
      refine k_get hX io_218 fl_X7_7 rfl dX7_store_256 ?_
      refine k_iload_n hX (i := 1) rfl rfl dX7_store_259 ?_
      refine k_iload_n hX (i := 2) rfl rfl dX7_store_260 ?_
      refine k_iconst (v := (nI 0)) hX rfl dX7_store_261 ?_
      refine k_callSI (vs := [.int x1, .int x2, .int (nI 0)]) hX (fun _ h9 => m_X7_cell hX.2.2.2.2.2.2.1  h9) ml_X7_150 ⟨Nat.le_of_ble_eq_true rfl, Nat.le_of_ble_eq_true rfl⟩ rfl rfl (Nat.le_of_ble_eq_true rfl) dX7_store_262 (fun q2 => ?_)
      refine k_aload_n hX (i := 0) rfl rfl dX7_store_265 ?_
      refine k_get hX io_218 fl_X7_35 rfl dX7_store_266 ?_
      refine k_iload_n hX (i := 3) rfl rfl dX7_store_269 ?_
      refine k_ald hX ia_227 dX7_store_270 (fun v3 => ?_)
      refine k_ast hX locM ia_219 dX7_store_271 (fun M4 => ?_)
      refine k_aload_n hX (i := 0) rfl rfl dX7_store_272 ?_
      refine k_get hX io_218 fl_X7_7 rfl dX7_store_273 ?_
      refine k_iload_n hX (i := 1) rfl rfl dX7_store_276 ?_
      refine k_iload_n hX (i := 2) rfl rfl dX7_store_277 ?_
      refine k_iconst (v := (nI 1)) hX rfl dX7_store_278 ?_
      refine k_callSI (vs := [.int x1, .int x2, .int (nI 1)]) hX (fun _ h9 => m_X7_cell hX.2.2.2.2.2.2.1  h9) ml_X7_150 ⟨Nat.le_of_ble_eq_true rfl, Nat.le_of_ble_eq_true rfl⟩ rfl rfl (Nat.le_of_ble_eq_true rfl) dX7_store_279 (fun q5 => ?_)
      refine k_iload hX rfl dX7_store_282 ?_
      refine k_bipush (v := (nI 16)) hX rfl dX7_store_284 ?_
      refine k_isub hX dX7_store_286 ?_
      refine k_ast hX locM ia_219 dX7_store_287 (fun M6 => ?_)
      exact k_vret hX dX7_store_288
    refine k_aload_n hX (i := 0) rfl rfl dX7_store_47 ?_
    refine k_get hX io_218 fl_X7_38 rfl dX7_store_48 ?_
    refine k_iload hX rfl dX7_store_51 ?_
    refine k_zald hX ia_228 dX7_store_53 (fun v7 => ?_)
    refine k_if_eq (tgt := 249) hX dX7_store_54 (by decide) (fun b8 => ?_) (fun b8 => ?_)
    · exact w_X7_store_249 hX ih x1 x2 x3 x4 x5 x6 M ⟨rfl, rfl, rfl, rfl, rfl, rfl, rfl, trivial⟩
    refine k_iload_n hX (i := 1) rfl rfl dX7_store_57 ?_
    refine k_iload_n hX (i := 2) rfl rfl dX7_store_58 ?_
    refine k_iconst (v := (nI 2)) hX rfl dX7_store_59 ?_
    refine k_iconst (v := (nI 3)) hX rfl dX7_store_60 ?_
    refine k_iload hX rfl dX7_store_61 ?_
    refine k_bipush (v := (nI 16)) hX rfl dX7_store_63 ?_
    refine k_isub hX dX7_store_65 ?_
    refine k_imul hX dX7_store_66 ?_
    refine k_iadd hX dX7_store_67 ?_
    refine k_callSI (vs := [.int x1, .int x2, .int ((nI 2) + ((nI 3) * (x4 - (nI 16))))]) hX (fun _ h9 => m_X7_cell hX.2.2.2.2.2.2.1  h9) ml_X7_150 ⟨Nat.le_of_ble_eq_true rfl, Nat.le_of_ble_eq_true rfl⟩ rfl rfl (Nat.le_of_ble_eq_true rfl) dX7_store_68 (fun q9 => ?_)
    refine k_istore (L' := [some (.ref (ad 218)), some (.int x1), some (.int x2), some (.int x3), some (.int x4), some (.int x5), some (.int x6), some (.int q9.1), none]) hX (by decide) rfl dX7_store_71 ?_
    refine k_aload_n hX (i := 0) rfl rfl dX7_store_73 ?_
    refine k_get hX io_218 fl_X7_35 rfl dX7_store_74 ?_
    refine k_iload hX rfl dX7_store_77 ?_
    refine k_iload hX rfl dX7_store_79 ?_
    refine k_ast hX locM ia_227 dX7_store_81 (fun M10 => ?_)
    refine k_aload_n hX (i := 0) rfl rfl dX7_store_82 ?_
    refine k_get hX io_218 fl_X7_7 rfl dX7_store_83 ?_
    refine k_iload hX rfl dX7_store_86 ?_
    refine k_aload_n hX (i := 0) rfl rfl dX7_store_88 ?_
    refine k_get hX io_218 fl_X7_20 rfl dX7_store_89 ?_
    refine k_iload hX rfl dX7_store_92 ?_
    refine k_ald hX ia_222 dX7_store_94 (fun v11 => ?_)
    refine k_ast hX locM ia_219 dX7_store_95 (fun M12 => ?_)
    refine k_aload_n hX (i := 0) rfl rfl dX7_store_96 ?_
    refine k_get hX io_218 fl_X7_7 rfl dX7_store_97 ?_
    refine k_iload hX rfl dX7_store_100 ?_
    refine k_iconst (v := (nI 1)) hX rfl dX7_store_102 ?_
    refine k_iadd hX dX7_store_103 ?_
    refine k_aload_n hX (i := 0) rfl rfl dX7_store_104 ?_
    refine k_get hX io_218 fl_X7_20 rfl dX7_store_105 ?_
    refine k_iload hX rfl dX7_store_108 ?_
    refine k_ald hX ia_222 dX7_store_110 (fun v13 => ?_)
    refine k_iconst (v := (nI 5)) hX rfl dX7_store_111 ?_
    refine k_icmp_lt (tgt := 120) hX dX7_store_112 (by decide) (fun b14 => ?_) (fun b14 => ?_)
    · refine k_aload_n hX (i := 0) rfl rfl dX7_store_120 ?_
      refine k_get hX io_218 fl_X7_35 rfl dX7_store_121 ?_
      refine k_aload_n hX (i := 0) rfl rfl dX7_store_124 ?_
      refine k_get hX io_218 fl_X7_23 rfl dX7_store_125 ?_
      refine k_iload hX rfl dX7_store_128 ?_
      refine k_ald hX ia_223 dX7_store_130 (fun v15 => ?_)
      refine k_ald hX ia_227 dX7_store_131 (fun v16 => ?_)
      exact w_X7_store_132 hX ih x1 x2 x3 x4 x5 x6 q9.1 v16 (q9.1 + (nI 1)) M12 ⟨rfl, rfl, rfl, rfl, rfl, rfl, rfl, rfl, trivial⟩
    refine k_iload hX rfl dX7_store_115 ?_
    refine k_goto (tgt := 132) hX dX7_store_117 (by decide) ?_
    exact w_X7_store_132 hX ih x1 x2 x3 x4 x5 x6 q9.1 x5 (q9.1 + (nI 1)) M12 ⟨rfl, rfl, rfl, rfl, rfl, rfl, rfl, rfl, trivial⟩
set_option maxHeartbeats 4000000 in
set_option maxRecDepth 100000 in
theorem w_X7_store_15 {l : Launch} {G : GL} {ad : Nat → Nat} {MM : Mem} {X : CT} (hX : Cx l { frames := 2, cells := 0, slots := 0, locals := 45 } cX7_store RX7 9 none G ad X) : ∀ (n : Nat), ∀ (x1 : Int32) (x2 : Int32) (x3 : Int32) (x4 : Int32) (x5 : Int32) (x6 : Int32) (M : Mem) {L : List (Option Value)}, lsub [some (.ref (ad 218)), some (.int x1), some (.int x2), some (.int x3), some (.int x4), some (.int x5), some (.int x6), none, none] L → KF l { frames := 2, cells := 0, slots := 0, locals := 45 } 9 G ad (EM G ad MM) (QP PostV G ad (EM G ad MM)) X (f_X7_store_15 n x1 x2 x3 x4 x5 x6 M) L 15 [] M := by
  intro n
  induction n with
  | zero =>
    intro x1 x2 x3 x4 x5 x6 M L hL
    exact KF.none'
  | succ n ih =>
    intro x1 x2 x3 x4 x5 x6 M L hL
    rw [f_X7_store_15]
    refine KF.locals (lsub_le hL) ?_
    refine k_iload hX rfl dX7_store_15 ?_
    refine k_bipush (v := (nI 16)) hX rfl dX7_store_17 ?_
    refine k_icmp_ge (tgt := 37) hX dX7_store_19 (by decide) (fun b1 => ?_) (fun b1 => ?_)
    · refine k_bipush (v := (nI 16)) hX rfl dX7_store_37 ?_
      refine k_istore (L' := [some (.ref (ad 218)), some (.int x1), some (.int x2), some (.int x3), some (.int x4), some (.int x5), some (.int (nI 16)), none, none]) hX (by decide) rfl dX7_store_39 ?_
      exact w_X7_store_41 hX fuelN x1 x2 x3 x4 x5 (nI 16) M ⟨rfl, rfl, rfl, rfl, rfl, rfl, rfl, trivial⟩
    refine k_aload_n hX (i := 0) rfl rfl dX7_store_22 ?_
    refine k_get hX io_218 fl_X7_35 rfl dX7_store_23 ?_
    refine k_iload hX rfl dX7_store_26 ?_
    refine k_iload hX rfl dX7_store_28 ?_
    refine k_ast hX locM ia_227 dX7_store_30 (fun M2 => ?_)
    refine k_iinc (v := x6 + nI 1) (L' := [some (.ref (ad 218)), some (.int x1), some (.int x2), some (.int x3), some (.int x4), some (.int x5), some (.int (x6 + nI 1)), none, none]) hX (i := 6) rfl rfl (by decide) rfl dX7_store_31 ?_
    refine k_goto (tgt := 15) hX dX7_store_34 (by decide) ?_
    exact ih x1 x2 x3 x4 x5 (x6 + nI 1) M2 ⟨rfl, rfl, rfl, rfl, rfl, rfl, rfl, trivial⟩
set_option maxHeartbeats 4000000 in
set_option maxRecDepth 100000 in
theorem w_X7_store {l : Launch} {G : GL} {ad : Nat → Nat} {MM : Mem} {X : CT} (hX : Cx l { frames := 2, cells := 0, slots := 0, locals := 45 } cX7_store RX7 9 none G ad X) {p1 : Int32} {p2 : Int32} {p3 : Int32} {M : Mem} : KF l { frames := 2, cells := 0, slots := 0, locals := 45 } 9 G ad (EM G ad MM) (QP PostV G ad (EM G ad MM)) X (f_X7_store p1 p2 p3 M) [some (.ref (ad 218)), some (.int p1), some (.int p2), some (.int p3), none, none, none, none, none] 0 [] M := by
  unfold f_X7_store
  refine k_aload_n hX (i := 0) rfl rfl dX7_store_0 ?_
  refine k_iload_n hX (i := 3) rfl rfl dX7_store_1 ?_
  refine k_callVV (vs := [.int p3]) hX (fun _ h9 => m_X7_mark hX.2.2.2.2.2.2.1  h9) io_218 rfl ml_X7_130 ⟨Nat.le_of_ble_eq_true rfl, Nat.le_of_ble_eq_true rfl⟩ rfl rfl (Nat.le_of_ble_eq_true rfl) dX7_store_2 (fun q1 => ?_)
  refine k_bipush (v := (nI 16)) hX rfl dX7_store_5 ?_
  refine k_istore (L' := [some (.ref (ad 218)), some (.int p1), some (.int p2), some (.int p3), some (.int (nI 16)), none, none, none, none]) hX (by decide) rfl dX7_store_7 ?_
  refine k_iconst (v := (nI 0)) hX rfl dX7_store_9 ?_
  refine k_istore (L' := [some (.ref (ad 218)), some (.int p1), some (.int p2), some (.int p3), some (.int (nI 16)), some (.int (nI 0)), none, none, none]) hX (by decide) rfl dX7_store_10 ?_
  refine k_iconst (v := (nI 0)) hX rfl dX7_store_12 ?_
  refine k_istore (L' := [some (.ref (ad 218)), some (.int p1), some (.int p2), some (.int p3), some (.int (nI 16)), some (.int (nI 0)), some (.int (nI 0)), none, none]) hX (by decide) rfl dX7_store_13 ?_
  exact w_X7_store_15 hX fuelN p1 p2 p3 (nI 16) (nI 0) (nI 0) q1.2 ⟨rfl, rfl, rfl, rfl, rfl, rfl, rfl, trivial⟩
set_option maxRecDepth 100000 in
theorem m_X7_store {l : Launch} {G : GL} {ad : Nat → Nat} {MM : Mem} (hAd : AdOK G ad) {p1 : Int32} {p2 : Int32} {p3 : Int32} {M : Mem} {r : Rv} (h : f_X7_store p1 p2 p3 M = some r) : Ct PostV l G ad (EM G ad MM) yX7_store cX7_store 9 none 2 45 [.ref (ad 218), .int p1, .int p2, .int p3] M r := ct_of' hAd (by decide +kernel) (List.forall_mem_cons.mpr ⟨rfl, (List.forall_mem_cons.mpr ⟨rfl, (List.forall_mem_cons.mpr ⟨rfl, (List.forall_mem_cons.mpr ⟨rfl, (fun _ h => absurd h List.not_mem_nil)⟩)⟩)⟩)⟩) (Nat.le_of_ble_eq_true rfl) (L := [some (.ref (ad 218)), some (.int p1), some (.int p2), some (.int p3), none, none, none, none, none]) rfl (fun _ hX => w_X7_store hX) h
