set_option maxHeartbeats 4000000 in
set_option maxRecDepth 100000 in
theorem w_L_isBorne_84 {l : Launch} {G : GL} {ad : Nat → Nat} {MM : Mem} {X : CT} (hX : Cx l { frames := 8, cells := 0, slots := 0, locals := 203 } cL_isBorne RL 8 (some .boolean) G ad X) {k16 : Int32 → Int32 → Int32 → Int32 → Int32 → Int32 → Mem → Option Rv} (hk16 : ∀ (x1 : Int32) (x2 : Int32) (x3 : Int32) (x4 : Int32) (x5 : Int32) (x6 : Int32) (M : Mem) {L : List (Option Value)}, lsub [some (.ref (ad 0)), some (.int x1), some (.int x2), some (.int x3), some (.int x4), some (.int x5), some (.int x6), none] L → KF l { frames := 8, cells := 0, slots := 0, locals := 203 } 8 G ad (EC G ad MM) (QP PostI G ad (EC G ad MM)) X (k16 x1 x2 x3 x4 x5 x6 M) L 16 [] M) : ∀ (x1 : Int32) (x2 : Int32) (x3 : Int32) (x4 : Int32) (x6 : Int32) (s0 : Int32) (M : Mem) {L : List (Option Value)}, lsub [some (.ref (ad 0)), some (.int x1), some (.int x2), some (.int x3), some (.int x4), none, some (.int x6), none] L → KF l { frames := 8, cells := 0, slots := 0, locals := 203 } 8 G ad (EC G ad MM) (QP PostI G ad (EC G ad MM)) X (f_L_isBorne_84 k16 x1 x2 x3 x4 x6 s0 M) L 84 [.int s0] M := by
  intro x1 x2 x3 x4 x6 s0 M L hL
  unfold f_L_isBorne_84
  refine KF.locals (lsub_le hL) ?_
  refine k_istore (L' := [some (.ref (ad 0)), some (.int x1), some (.int x2), some (.int x3), some (.int x4), some (.int s0), some (.int x6), none]) hX (by decide) rfl dL_isBorne_84 ?_
  refine k_iinc (v := x6 - nI 1) (L' := [some (.ref (ad 0)), some (.int x1), some (.int x2), some (.int x3), some (.int x4), some (.int s0), some (.int (x6 - nI 1)), none]) hX (i := 6) rfl (iinc_neg _ _ rfl) (by decide) rfl dL_isBorne_86 ?_
  refine k_goto (tgt := 16) hX dL_isBorne_89 (by decide) ?_
  exact hk16 x1 x2 x3 x4 s0 (x6 - nI 1) M ⟨rfl, rfl, rfl, rfl, rfl, rfl, rfl, trivial⟩
set_option maxHeartbeats 4000000 in
set_option maxRecDepth 100000 in
theorem w_L_isBorne_69 {l : Launch} {G : GL} {ad : Nat → Nat} {MM : Mem} {X : CT} (hX : Cx l { frames := 8, cells := 0, slots := 0, locals := 203 } cL_isBorne RL 8 (some .boolean) G ad X) {k16 : Int32 → Int32 → Int32 → Int32 → Int32 → Int32 → Mem → Option Rv} (hk16 : ∀ (x1 : Int32) (x2 : Int32) (x3 : Int32) (x4 : Int32) (x5 : Int32) (x6 : Int32) (M : Mem) {L : List (Option Value)}, lsub [some (.ref (ad 0)), some (.int x1), some (.int x2), some (.int x3), some (.int x4), some (.int x5), some (.int x6), none] L → KF l { frames := 8, cells := 0, slots := 0, locals := 203 } 8 G ad (EC G ad MM) (QP PostI G ad (EC G ad MM)) X (k16 x1 x2 x3 x4 x5 x6 M) L 16 [] M) : ∀ (x1 : Int32) (x2 : Int32) (x3 : Int32) (x5 : Int32) (x6 : Int32) (x7 : Int32) (s0 : Int32) (M : Mem) {L : List (Option Value)}, lsub [some (.ref (ad 0)), some (.int x1), some (.int x2), some (.int x3), none, some (.int x5), some (.int x6), some (.int x7)] L → KF l { frames := 8, cells := 0, slots := 0, locals := 203 } 8 G ad (EC G ad MM) (QP PostI G ad (EC G ad MM)) X (f_L_isBorne_69 k16 x1 x2 x3 x5 x6 x7 s0 M) L 69 [.int s0] M := by
  intro x1 x2 x3 x5 x6 x7 s0 M L hL
  unfold f_L_isBorne_69
  refine KF.locals (lsub_le hL) ?_
  refine k_istore (L' := [some (.ref (ad 0)), some (.int x1), some (.int x2), some (.int x3), some (.int s0), some (.int x5), some (.int x6), some (.int x7)]) hX (by decide) rfl dL_isBorne_69 ?_
  refine k_iload hX rfl dL_isBorne_71 ?_
  refine k_iconst (v := (nI 1)) hX rfl dL_isBorne_73 ?_
  refine k_icmp_ne (tgt := 82) hX dL_isBorne_74 (by decide) (fun b1 => ?_) (fun b1 => ?_)
  · refine k_iload hX rfl dL_isBorne_82 ?_
    exact w_L_isBorne_84 hX hk16 x1 x2 x3 s0 x6 x5 M ⟨rfl, rfl, rfl, rfl, rfl, rfl, trivial⟩
  refine k_iload hX rfl dL_isBorne_77 ?_
  refine k_goto (tgt := 84) hX dL_isBorne_79 (by decide) ?_
  exact w_L_isBorne_84 hX hk16 x1 x2 x3 s0 x6 x6 M ⟨rfl, rfl, rfl, rfl, rfl, rfl, trivial⟩
set_option maxHeartbeats 4000000 in
set_option maxRecDepth 100000 in
theorem w_L_isBorne_55 {l : Launch} {G : GL} {ad : Nat → Nat} {MM : Mem} {X : CT} (hX : Cx l { frames := 8, cells := 0, slots := 0, locals := 203 } cL_isBorne RL 8 (some .boolean) G ad X) {k16 : Int32 → Int32 → Int32 → Int32 → Int32 → Int32 → Mem → Option Rv} (hk16 : ∀ (x1 : Int32) (x2 : Int32) (x3 : Int32) (x4 : Int32) (x5 : Int32) (x6 : Int32) (M : Mem) {L : List (Option Value)}, lsub [some (.ref (ad 0)), some (.int x1), some (.int x2), some (.int x3), some (.int x4), some (.int x5), some (.int x6), none] L → KF l { frames := 8, cells := 0, slots := 0, locals := 203 } 8 G ad (EC G ad MM) (QP PostI G ad (EC G ad MM)) X (k16 x1 x2 x3 x4 x5 x6 M) L 16 [] M) : ∀ (x1 : Int32) (x2 : Int32) (x4 : Int32) (x5 : Int32) (x6 : Int32) (x7 : Int32) (s0 : Int32) (s1 : Int32) (M : Mem) {L : List (Option Value)}, lsub [some (.ref (ad 0)), some (.int x1), some (.int x2), none, some (.int x4), some (.int x5), some (.int x6), some (.int x7)] L → KF l { frames := 8, cells := 0, slots := 0, locals := 203 } 8 G ad (EC G ad MM) (QP PostI G ad (EC G ad MM)) X (f_L_isBorne_55 k16 x1 x2 x4 x5 x6 x7 s0 s1 M) L 55 [.int s0, .int s1] M := by
  intro x1 x2 x4 x5 x6 x7 s0 s1 M L hL
  unfold f_L_isBorne_55
  refine KF.locals (lsub_le hL) ?_
  refine k_iadd hX dL_isBorne_55 ?_
  refine k_istore_n (L' := [some (.ref (ad 0)), some (.int x1), some (.int x2), some (.int (s1 + s0)), some (.int x4), some (.int x5), some (.int x6), some (.int x7)]) hX (i := 3) rfl (by decide) rfl dL_isBorne_56 ?_
  refine k_iload hX rfl dL_isBorne_57 ?_
  refine k_if_eq (tgt := 67) hX dL_isBorne_59 (by decide) (fun b1 => ?_) (fun b1 => ?_)
  · refine k_iload hX rfl dL_isBorne_67 ?_
    exact w_L_isBorne_69 hX hk16 x1 x2 (s1 + s0) x5 x6 x7 x4 M ⟨rfl, rfl, rfl, rfl, rfl, rfl, rfl, trivial⟩
  refine k_iload hX rfl dL_isBorne_62 ?_
  refine k_goto (tgt := 69) hX dL_isBorne_64 (by decide) ?_
  exact w_L_isBorne_69 hX hk16 x1 x2 (s1 + s0) x5 x6 x7 x6 M ⟨rfl, rfl, rfl, rfl, rfl, rfl, rfl, trivial⟩
set_option maxHeartbeats 4000000 in
set_option maxRecDepth 100000 in
theorem w_L_isBorne_41 {l : Launch} {G : GL} {ad : Nat → Nat} {MM : Mem} {X : CT} (hX : Cx l { frames := 8, cells := 0, slots := 0, locals := 203 } cL_isBorne RL 8 (some .boolean) G ad X) {k16 : Int32 → Int32 → Int32 → Int32 → Int32 → Int32 → Mem → Option Rv} (hk16 : ∀ (x1 : Int32) (x2 : Int32) (x3 : Int32) (x4 : Int32) (x5 : Int32) (x6 : Int32) (M : Mem) {L : List (Option Value)}, lsub [some (.ref (ad 0)), some (.int x1), some (.int x2), some (.int x3), some (.int x4), some (.int x5), some (.int x6), none] L → KF l { frames := 8, cells := 0, slots := 0, locals := 203 } 8 G ad (EC G ad MM) (QP PostI G ad (EC G ad MM)) X (k16 x1 x2 x3 x4 x5 x6 M) L 16 [] M) : ∀ (x1 : Int32) (x3 : Int32) (x4 : Int32) (x5 : Int32) (x6 : Int32) (x7 : Int32) (s0 : Int32) (s1 : Int32) (M : Mem) {L : List (Option Value)}, lsub [some (.ref (ad 0)), some (.int x1), none, some (.int x3), some (.int x4), some (.int x5), some (.int x6), some (.int x7)] L → KF l { frames := 8, cells := 0, slots := 0, locals := 203 } 8 G ad (EC G ad MM) (QP PostI G ad (EC G ad MM)) X (f_L_isBorne_41 k16 x1 x3 x4 x5 x6 x7 s0 s1 M) L 41 [.int s0, .int s1] M := by
  intro x1 x3 x4 x5 x6 x7 s0 s1 M L hL
  unfold f_L_isBorne_41
  refine KF.locals (lsub_le hL) ?_
  refine k_iadd hX dL_isBorne_41 ?_
  refine k_istore_n (L' := [some (.ref (ad 0)), some (.int x1), some (.int (s1 + s0)), some (.int x3), some (.int x4), some (.int x5), some (.int x6), some (.int x7)]) hX (i := 2) rfl (by decide) rfl dL_isBorne_42 ?_
  refine k_iload_n hX (i := 3) rfl rfl dL_isBorne_43 ?_
  refine k_iload hX rfl dL_isBorne_44 ?_
  refine k_iconst (v := (nI 1)) hX rfl dL_isBorne_46 ?_
  refine k_icmp_ne (tgt := 54) hX dL_isBorne_47 (by decide) (fun b1 => ?_) (fun b1 => ?_)
  · refine k_iconst (v := (nI 0)) hX rfl dL_isBorne_54 ?_
    exact w_L_isBorne_55 hX hk16 x1 (s1 + s0) x4 x5 x6 x7 (nI 0) x3 M ⟨rfl, rfl, rfl, rfl, rfl, rfl, rfl, trivial⟩
  refine k_iconst (v := (nI 1)) hX rfl dL_isBorne_50 ?_
  refine k_goto (tgt := 55) hX dL_isBorne_51 (by decide) ?_
  exact w_L_isBorne_55 hX hk16 x1 (s1 + s0) x4 x5 x6 x7 (nI 1) x3 M ⟨rfl, rfl, rfl, rfl, rfl, rfl, rfl, trivial⟩
set_option maxHeartbeats 4000000 in
set_option maxRecDepth 100000 in
theorem w_L_isBorne_139 {l : Launch} {G : GL} {ad : Nat → Nat} {MM : Mem} {X : CT} (hX : Cx l { frames := 8, cells := 0, slots := 0, locals := 203 } cL_isBorne RL 8 (some .boolean) G ad X) : ∀ (s0 : Int32) (M : Mem) {L : List (Option Value)}, lsub [none, none, none, none, none, none, none, none] L → KF l { frames := 8, cells := 0, slots := 0, locals := 203 } 8 G ad (EC G ad MM) (QP PostI G ad (EC G ad MM)) X (f_L_isBorne_139 s0 M) L 139 [.int s0] M := by
  intro s0 M L hL
  unfold f_L_isBorne_139
  refine KF.locals (lsub_le hL) ?_
  exact k_zret hX dL_isBorne_139
set_option maxHeartbeats 4000000 in
set_option maxRecDepth 100000 in
theorem w_L_isBorne_138 {l : Launch} {G : GL} {ad : Nat → Nat} {MM : Mem} {X : CT} (hX : Cx l { frames := 8, cells := 0, slots := 0, locals := 203 } cL_isBorne RL 8 (some .boolean) G ad X) : ∀ (M : Mem) {L : List (Option Value)}, lsub [none, none, none, none, none, none, none, none] L → KF l { frames := 8, cells := 0, slots := 0, locals := 203 } 8 G ad (EC G ad MM) (QP PostI G ad (EC G ad MM)) X (f_L_isBorne_138 M) L 138 [] M := by
  intro M L hL
  unfold f_L_isBorne_138
  refine KF.locals (lsub_le hL) ?_
  refine k_iconst (v := (nI 0)) hX rfl dL_isBorne_138 ?_
  exact w_L_isBorne_139 hX (nI 0) M trivial
set_option maxHeartbeats 4000000 in
set_option maxRecDepth 100000 in
theorem w_L_isBorne_16 {l : Launch} {G : GL} {ad : Nat → Nat} {MM : Mem} {X : CT} (hX : Cx l { frames := 8, cells := 0, slots := 0, locals := 203 } cL_isBorne RL 8 (some .boolean) G ad X) : ∀ (n : Nat), ∀ (x1 : Int32) (x2 : Int32) (x3 : Int32) (x4 : Int32) (x5 : Int32) (x6 : Int32) (M : Mem) {L : List (Option Value)}, lsub [some (.ref (ad 0)), some (.int x1), some (.int x2), some (.int x3), some (.int x4), some (.int x5), some (.int x6), none] L → KF l { frames := 8, cells := 0, slots := 0, locals := 203 } 8 G ad (EC G ad MM) (QP PostI G ad (EC G ad MM)) X (f_L_isBorne_16 n x1 x2 x3 x4 x5 x6 M) L 16 [] M := by
  intro n
  induction n with
  | zero =>
    intro x1 x2 x3 x4 x5 x6 M L hL
    exact KF.none'
  | succ n ih =>
    intro x1 x2 x3 x4 x5 x6 M L hL
    rw [f_L_isBorne_16]
    refine KF.locals (lsub_le hL) ?_
    refine k_iload hX rfl dL_isBorne_16 ?_
    refine k_if_lt (tgt := 92) hX dL_isBorne_18 (by decide) (fun b1 => ?_) (fun b1 => ?_)
    · refine k_aload_n hX (i := 0) rfl rfl dL_isBorne_92 ?_
      refine k_iload_n hX (i := 1) rfl rfl dL_isBorne_93 ?_
      refine k_iconst (v := (nI 0)) hX rfl dL_isBorne_94 ?_
      refine k_callVI (vs := [.int x1, .int (nI 0)]) hX (fun _ h9 => m_X6_bears hX.2.2.2.2.2.2.1  h9) io_0 rfl ml_L_47 ⟨Nat.le_of_ble_eq_true rfl, Nat.le_of_ble_eq_true rfl⟩ rfl rfl (Nat.le_of_ble_eq_true rfl) dL_isBorne_95 (fun q2 => ?_)
      refine k_iload_n hX (i := 2) rfl rfl dL_isBorne_98 ?_
      refine k_icmp_ne (tgt := 138) hX dL_isBorne_99 (by decide) (fun b3 => ?_) (fun b3 => ?_)
      · exact w_L_isBorne_138 hX q2.2 trivial
      refine k_aload_n hX (i := 0) rfl rfl dL_isBorne_102 ?_
      refine k_iload_n hX (i := 1) rfl rfl dL_isBorne_103 ?_
      refine k_iconst (v := (nI 1)) hX rfl dL_isBorne_104 ?_
      refine k_callVI (vs := [.int x1, .int (nI 1)]) hX (fun _ h9 => m_X6_bears hX.2.2.2.2.2.2.1  h9) io_0 rfl ml_L_47 ⟨Nat.le_of_ble_eq_true rfl, Nat.le_of_ble_eq_true rfl⟩ rfl rfl (Nat.le_of_ble_eq_true rfl) dL_isBorne_105 (fun q4 => ?_)
      refine k_iload hX rfl dL_isBorne_108 ?_
      refine k_icmp_ne (tgt := 138) hX dL_isBorne_110 (by decide) (fun b5 => ?_) (fun b5 => ?_)
      · exact w_L_isBorne_138 hX q4.2 trivial
      refine k_aload_n hX (i := 0) rfl rfl dL_isBorne_113 ?_
      refine k_iload_n hX (i := 1) rfl rfl dL_isBorne_114 ?_
      refine k_iconst (v := (nI 2)) hX rfl dL_isBorne_115 ?_
      refine k_callVI (vs := [.int x1, .int (nI 2)]) hX (fun _ h9 => m_X6_bears hX.2.2.2.2.2.2.1  h9) io_0 rfl ml_L_47 ⟨Nat.le_of_ble_eq_true rfl, Nat.le_of_ble_eq_true rfl⟩ rfl rfl (Nat.le_of_ble_eq_true rfl) dL_isBorne_116 (fun q6 => ?_)
      refine k_iload_n hX (i := 3) rfl rfl dL_isBorne_119 ?_
      refine k_icmp_ne (tgt := 138) hX dL_isBorne_120 (by decide) (fun b7 => ?_) (fun b7 => ?_)
      · exact w_L_isBorne_138 hX q6.2 trivial
      refine k_aload_n hX (i := 0) rfl rfl dL_isBorne_123 ?_
      refine k_iload_n hX (i := 1) rfl rfl dL_isBorne_124 ?_
      refine k_iconst (v := (nI 3)) hX rfl dL_isBorne_125 ?_
      refine k_callVI (vs := [.int x1, .int (nI 3)]) hX (fun _ h9 => m_X6_bears hX.2.2.2.2.2.2.1  h9) io_0 rfl ml_L_47 ⟨Nat.le_of_ble_eq_true rfl, Nat.le_of_ble_eq_true rfl⟩ rfl rfl (Nat.le_of_ble_eq_true rfl) dL_isBorne_126 (fun q8 => ?_)
      refine k_iload hX rfl dL_isBorne_129 ?_
      refine k_icmp_ne (tgt := 138) hX dL_isBorne_131 (by decide) (fun b9 => ?_) (fun b9 => ?_)
      · exact w_L_isBorne_138 hX q8.2 trivial
      refine k_iconst (v := (nI 1)) hX rfl dL_isBorne_134 ?_
      refine k_goto (tgt := 139) hX dL_isBorne_135 (by decide) ?_
      exact w_L_isBorne_139 hX (nI 1) q8.2 trivial
    refine k_aload_n hX (i := 0) rfl rfl dL_isBorne_21 ?_
    refine k_iload_n hX (i := 1) rfl rfl dL_isBorne_22 ?_
    refine k_iload hX rfl dL_isBorne_23 ?_
    refine k_callVI (vs := [.int x1, .int x6]) hX (fun _ h9 => m_X6_would hX.2.2.2.2.2.2.1  h9) io_0 rfl ml_L_44 ⟨Nat.le_of_ble_eq_true rfl, Nat.le_of_ble_eq_true rfl⟩ rfl rfl (Nat.le_of_ble_eq_true rfl) dL_isBorne_25 (fun q10 => ?_)
    refine k_istore (L' := [some (.ref (ad 0)), some (.int x1), some (.int x2), some (.int x3), some (.int x4), some (.int x5), some (.int x6), some (.int q10.1)]) hX (by decide) rfl dL_isBorne_28 ?_
    refine k_iload_n hX (i := 2) rfl rfl dL_isBorne_30 ?_
    refine k_iload hX rfl dL_isBorne_31 ?_
    refine k_if_eq (tgt := 40) hX dL_isBorne_33 (by decide) (fun b11 => ?_) (fun b11 => ?_)
    · refine k_iconst (v := (nI 0)) hX rfl dL_isBorne_40 ?_
      exact w_L_isBorne_41 hX ih x1 x3 x4 x5 x6 q10.1 (nI 0) x2 q10.2 ⟨rfl, rfl, rfl, rfl, rfl, rfl, rfl, trivial⟩
    refine k_iconst (v := (nI 1)) hX rfl dL_isBorne_36 ?_
    refine k_goto (tgt := 41) hX dL_isBorne_37 (by decide) ?_
    exact w_L_isBorne_41 hX ih x1 x3 x4 x5 x6 q10.1 (nI 1) x2 q10.2 ⟨rfl, rfl, rfl, rfl, rfl, rfl, rfl, trivial⟩
set_option maxHeartbeats 4000000 in
set_option maxRecDepth 100000 in
theorem w_L_isBorne {l : Launch} {G : GL} {ad : Nat → Nat} {MM : Mem} {X : CT} (hX : Cx l { frames := 8, cells := 0, slots := 0, locals := 203 } cL_isBorne RL 8 (some .boolean) G ad X) {p2 : Int32} {M : Mem} : KF l { frames := 8, cells := 0, slots := 0, locals := 203 } 8 G ad (EC G ad MM) (QP PostI G ad (EC G ad MM)) X (f_L_isBorne p2 M) [some (.ref (ad 0)), some (.int p2), none, none, none, none, none, none] 0 [] M := by
  unfold f_L_isBorne
  refine k_iconst (v := (nI 0)) hX rfl dL_isBorne_0 ?_
  refine k_istore_n (L' := [some (.ref (ad 0)), some (.int p2), some (.int (nI 0)), none, none, none, none, none]) hX (i := 2) rfl (by decide) rfl dL_isBorne_1 ?_
  refine k_iconst (v := (nI 0)) hX rfl dL_isBorne_2 ?_
  refine k_istore_n (L' := [some (.ref (ad 0)), some (.int p2), some (.int (nI 0)), some (.int (nI 0)), none, none, none, none]) hX (i := 3) rfl (by decide) rfl dL_isBorne_3 ?_
  refine k_bipush (v := (-5)) hX rfl dL_isBorne_4 ?_
  refine k_istore (L' := [some (.ref (ad 0)), some (.int p2), some (.int (nI 0)), some (.int (nI 0)), some (.int (-5)), none, none, none]) hX (by decide) rfl dL_isBorne_6 ?_
  refine k_bipush (v := (-5)) hX rfl dL_isBorne_8 ?_
  refine k_istore (L' := [some (.ref (ad 0)), some (.int p2), some (.int (nI 0)), some (.int (nI 0)), some (.int (-5)), some (.int (-5)), none, none]) hX (by decide) rfl dL_isBorne_10 ?_
  refine k_bipush (v := (nI 63)) hX rfl dL_isBorne_12 ?_
  refine k_istore (L' := [some (.ref (ad 0)), some (.int p2), some (.int (nI 0)), some (.int (nI 0)), some (.int (-5)), some (.int (-5)), some (.int (nI 63)), none]) hX (by decide) rfl dL_isBorne_14 ?_
  exact w_L_isBorne_16 hX fuelN p2 (nI 0) (nI 0) (-5) (-5) (nI 63) M ⟨rfl, rfl, rfl, rfl, rfl, rfl, rfl, trivial⟩
set_option maxRecDepth 100000 in
theorem m_L_isBorne {l : Launch} {G : GL} {ad : Nat → Nat} {MM : Mem} (hAd : AdOK G ad) {p2 : Int32} {M : Mem} {r : Rv} (h : f_L_isBorne p2 M = some r) : Ct PostI l G ad (EC G ad MM) yL_isBorne cL_isBorne 8 (some .boolean) 8 203 [.ref (ad 0), .int p2] M r := ct_of' hAd (by decide +kernel) (List.forall_mem_cons.mpr ⟨rfl, (List.forall_mem_cons.mpr ⟨rfl, (fun _ h => absurd h List.not_mem_nil)⟩)⟩) (Nat.le_of_ble_eq_true rfl) (L := [some (.ref (ad 0)), some (.int p2), none, none, none, none, none, none]) rfl (fun _ hX => w_L_isBorne hX) h
set_option maxHeartbeats 4000000 in
set_option maxRecDepth 100000 in
theorem w_L_isAll_118 {l : Launch} {G : GL} {ad : Nat → Nat} {MM : Mem} {X : CT} (hX : Cx l { frames := 7, cells := 0, slots := 0, locals := 186 } cL_isAll RL 7 (some .boolean) G ad X) {k9 : Int32 → Int32 → Int32 → Int32 → Mem → Option Rv} (hk9 : ∀ (x1 : Int32) (x2 : Int32) (x3 : Int32) (x4 : Int32) (M : Mem) {L : List (Option Value)}, lsub [some (.ref (ad 0)), some (.int x1), some (.int x2), some (.int x3), some (.int x4), none, none] L → KF l { frames := 7, cells := 0, slots := 0, locals := 186 } 7 G ad (EC G ad MM) (QP PostI G ad (EC G ad MM)) X (k9 x1 x2 x3 x4 M) L 9 [] M) : ∀ (x1 : Int32) (x2 : Int32) (x4 : Int32) (s0 : Int32) (M : Mem) {L : List (Option Value)}, lsub [some (.ref (ad 0)), some (.int x1), some (.int x2), none, some (.int x4), none, none] L → KF l { frames := 7, cells := 0, slots := 0, locals := 186 } 7 G ad (EC G ad MM) (QP PostI G ad (EC G ad MM)) X (f_L_isAll_118 k9 x1 x2 x4 s0 M) L 118 [.int s0] M := by
  intro x1 x2 x4 s0 M L hL
  unfold f_L_isAll_118
  refine KF.locals (lsub_le hL) ?_
  refine k_istore_n (L' := [some (.ref (ad 0)), some (.int x1), some (.int x2), some (.int s0), some (.int x4), none, none]) hX (i := 3) rfl (by decide) rfl dL_isAll_118 ?_
  refine k_iinc (v := x4 + nI 1) (L' := [some (.ref (ad 0)), some (.int x1), some (.int x2), some (.int s0), some (.int (x4 + nI 1)), none, none]) hX (i := 4) rfl rfl (by decide) rfl dL_isAll_119 ?_
  refine k_goto (tgt := 9) hX dL_isAll_122 (by decide) ?_
  exact hk9 x1 x2 s0 (x4 + nI 1) M ⟨rfl, rfl, rfl, rfl, rfl, trivial⟩
set_option maxHeartbeats 4000000 in
set_option maxRecDepth 100000 in
theorem w_L_isAll_113 {l : Launch} {G : GL} {ad : Nat → Nat} {MM : Mem} {X : CT} (hX : Cx l { frames := 7, cells := 0, slots := 0, locals := 186 } cL_isAll RL 7 (some .boolean) G ad X) {k9 : Int32 → Int32 → Int32 → Int32 → Mem → Option Rv} (hk9 : ∀ (x1 : Int32) (x2 : Int32) (x3 : Int32) (x4 : Int32) (M : Mem) {L : List (Option Value)}, lsub [some (.ref (ad 0)), some (.int x1), some (.int x2), some (.int x3), some (.int x4), none, none] L → KF l { frames := 7, cells := 0, slots := 0, locals := 186 } 7 G ad (EC G ad MM) (QP PostI G ad (EC G ad MM)) X (k9 x1 x2 x3 x4 M) L 9 [] M) : ∀ (x1 : Int32) (x2 : Int32) (x4 : Int32) (M : Mem) {L : List (Option Value)}, lsub [some (.ref (ad 0)), some (.int x1), some (.int x2), none, some (.int x4), none, none] L → KF l { frames := 7, cells := 0, slots := 0, locals := 186 } 7 G ad (EC G ad MM) (QP PostI G ad (EC G ad MM)) X (f_L_isAll_113 k9 x1 x2 x4 M) L 113 [] M := by
  intro x1 x2 x4 M L hL
  unfold f_L_isAll_113
  refine KF.locals (lsub_le hL) ?_
  refine k_iconst (v := (nI 1)) hX rfl dL_isAll_113 ?_
  refine k_goto (tgt := 118) hX dL_isAll_114 (by decide) ?_
  exact w_L_isAll_118 hX hk9 x1 x2 x4 (nI 1) M ⟨rfl, rfl, rfl, rfl, trivial⟩
set_option maxHeartbeats 4000000 in
set_option maxRecDepth 100000 in
theorem w_L_isAll_97 {l : Launch} {G : GL} {ad : Nat → Nat} {MM : Mem} {X : CT} (hX : Cx l { frames := 7, cells := 0, slots := 0, locals := 186 } cL_isAll RL 7 (some .boolean) G ad X) {k9 : Int32 → Int32 → Int32 → Int32 → Mem → Option Rv} (hk9 : ∀ (x1 : Int32) (x2 : Int32) (x3 : Int32) (x4 : Int32) (M : Mem) {L : List (Option Value)}, lsub [some (.ref (ad 0)), some (.int x1), some (.int x2), some (.int x3), some (.int x4), none, none] L → KF l { frames := 7, cells := 0, slots := 0, locals := 186 } 7 G ad (EC G ad MM) (QP PostI G ad (EC G ad MM)) X (k9 x1 x2 x3 x4 M) L 9 [] M) : ∀ (x1 : Int32) (x4 : Int32) (x5 : Int32) (s0 : Int32) (s1 : Int32) (M : Mem) {L : List (Option Value)}, lsub [some (.ref (ad 0)), some (.int x1), none, none, some (.int x4), some (.int x5), none] L → KF l { frames := 7, cells := 0, slots := 0, locals := 186 } 7 G ad (EC G ad MM) (QP PostI G ad (EC G ad MM)) X (f_L_isAll_97 k9 x1 x4 x5 s0 s1 M) L 97 [.int s0, .int s1] M := by
  intro x1 x4 x5 s0 s1 M L hL
  unfold f_L_isAll_97
  refine KF.locals (lsub_le hL) ?_
  refine k_iadd hX dL_isAll_97 ?_
  refine k_istore_n (L' := [some (.ref (ad 0)), some (.int x1), some (.int (s1 + s0)), none, some (.int x4), some (.int x5), none]) hX (i := 2) rfl (by decide) rfl dL_isAll_98 ?_
  refine k_iload hX rfl dL_isAll_99 ?_
  refine k_if_eq (tgt := 113) hX dL_isAll_101 (by decide) (fun b1 => ?_) (fun b1 => ?_)
  · exact w_L_isAll_113 hX hk9 x1 (s1 + s0) x4 M ⟨rfl, rfl, rfl, rfl, trivial⟩
  refine k_aload_n hX (i := 0) rfl rfl dL_isAll_104 ?_
  refine k_iload hX rfl dL_isAll_105 ?_
  refine k_callSI (vs := [.ref (ad 0), .int x4]) hX (fun _ h9 => m_L_isWish hX.2.2.2.2.2.2.1  h9) ml_L_54 ⟨Nat.le_of_ble_eq_true rfl, Nat.le_of_ble_eq_true rfl⟩ rfl rfl (Nat.le_of_ble_eq_true rfl) dL_isAll_107 (fun q2 => ?_)
  refine k_if_eq (tgt := 117) hX dL_isAll_110 (by decide) (fun b3 => ?_) (fun b3 => ?_)
  · refine k_iconst (v := (nI 0)) hX rfl dL_isAll_117 ?_
    exact w_L_isAll_118 hX hk9 x1 (s1 + s0) x4 (nI 0) q2.2 ⟨rfl, rfl, rfl, rfl, trivial⟩
  exact w_L_isAll_113 hX hk9 x1 (s1 + s0) x4 q2.2 ⟨rfl, rfl, rfl, rfl, trivial⟩
set_option maxHeartbeats 4000000 in
set_option maxRecDepth 100000 in
theorem w_L_isAll_51 {l : Launch} {G : GL} {ad : Nat → Nat} {MM : Mem} {X : CT} (hX : Cx l { frames := 7, cells := 0, slots := 0, locals := 186 } cL_isAll RL 7 (some .boolean) G ad X) {k9 : Int32 → Int32 → Int32 → Int32 → Mem → Option Rv} (hk9 : ∀ (x1 : Int32) (x2 : Int32) (x3 : Int32) (x4 : Int32) (M : Mem) {L : List (Option Value)}, lsub [some (.ref (ad 0)), some (.int x1), some (.int x2), some (.int x3), some (.int x4), none, none] L → KF l { frames := 7, cells := 0, slots := 0, locals := 186 } 7 G ad (EC G ad MM) (QP PostI G ad (EC G ad MM)) X (k9 x1 x2 x3 x4 M) L 9 [] M) : ∀ (x2 : Int32) (x4 : Int32) (x5 : Int32) (s0 : Int32) (s1 : Int32) (M : Mem) {L : List (Option Value)}, lsub [some (.ref (ad 0)), none, some (.int x2), none, some (.int x4), some (.int x5), none] L → KF l { frames := 7, cells := 0, slots := 0, locals := 186 } 7 G ad (EC G ad MM) (QP PostI G ad (EC G ad MM)) X (f_L_isAll_51 k9 x2 x4 x5 s0 s1 M) L 51 [.int s0, .int s1] M := by
  intro x2 x4 x5 s0 s1 M L hL
  unfold f_L_isAll_51
  refine KF.locals (lsub_le hL) ?_
  refine k_iadd hX dL_isAll_51 ?_
  refine k_istore_n (L' := [some (.ref (ad 0)), some (.int (s1 + s0)), some (.int x2), none, some (.int x4), some (.int x5), none]) hX (i := 1) rfl (by decide) rfl dL_isAll_52 ?_
  refine k_iload_n hX (i := 2) rfl rfl dL_isAll_53 ?_
  refine k_iload hX rfl dL_isAll_54 ?_
  refine k_if_eq (tgt := 96) hX dL_isAll_56 (by decide) (fun b1 => ?_) (fun b1 => ?_)
  · refine k_iconst (v := (nI 0)) hX rfl dL_isAll_96 ?_
    exact w_L_isAll_97 hX hk9 (s1 + s0) x4 x5 (nI 0) x2 M ⟨rfl, rfl, rfl, rfl, trivial⟩
  refine k_aload_n hX (i := 0) rfl rfl dL_isAll_59 ?_
  refine k_iload hX rfl dL_isAll_60 ?_
  refine k_iconst (v := (nI 0)) hX rfl dL_isAll_62 ?_
  refine k_callVI (vs := [.int x4, .int (nI 0)]) hX (fun _ h9 => m_X6_wish hX.2.2.2.2.2.2.1  h9) io_0 rfl ml_L_36 ⟨Nat.le_of_ble_eq_true rfl, Nat.le_of_ble_eq_true rfl⟩ rfl rfl (Nat.le_of_ble_eq_true rfl) dL_isAll_63 (fun q2 => ?_)
  refine k_iconst (v := (nI 2)) hX rfl dL_isAll_66 ?_
  refine k_icmp_ne (tgt := 75) hX dL_isAll_67 (by decide) (fun b3 => ?_) (fun b3 => ?_)
  · refine k_aload_n hX (i := 0) rfl rfl dL_isAll_75 ?_
    refine k_iload hX rfl dL_isAll_76 ?_
    refine k_iconst (v := (nI 0)) hX rfl dL_isAll_78 ?_
    refine k_callVI (vs := [.int x4, .int (nI 0)]) hX (fun _ h9 => m_X6_wish hX.2.2.2.2.2.2.1  h9) io_0 rfl ml_L_36 ⟨Nat.le_of_ble_eq_true rfl, Nat.le_of_ble_eq_true rfl⟩ rfl rfl (Nat.le_of_ble_eq_true rfl) dL_isAll_79 (fun q4 => ?_)
    refine k_iconst (v := (nI 1)) hX rfl dL_isAll_82 ?_
    refine k_icmp_ne (tgt := 92) hX dL_isAll_83 (by decide) (fun b5 => ?_) (fun b5 => ?_)
    · refine k_iconst (v := (nI 1)) hX rfl dL_isAll_92 ?_
      refine k_goto (tgt := 97) hX dL_isAll_93 (by decide) ?_
      exact w_L_isAll_97 hX hk9 (s1 + s0) x4 x5 (nI 1) x2 q4.2 ⟨rfl, rfl, rfl, rfl, trivial⟩
    refine k_sipush (v := (nI 10000)) hX rfl dL_isAll_86 ?_
    refine k_goto (tgt := 97) hX dL_isAll_89 (by decide) ?_
    exact w_L_isAll_97 hX hk9 (s1 + s0) x4 x5 (nI 10000) x2 q4.2 ⟨rfl, rfl, rfl, rfl, trivial⟩
  refine k_bipush (v := (nI 100)) hX rfl dL_isAll_70 ?_
  refine k_goto (tgt := 97) hX dL_isAll_72 (by decide) ?_
  exact w_L_isAll_97 hX hk9 (s1 + s0) x4 x5 (nI 100) x2 q2.2 ⟨rfl, rfl, rfl, rfl, trivial⟩
set_option maxHeartbeats 4000000 in
set_option maxRecDepth 100000 in
theorem w_L_isAll_38 {l : Launch} {G : GL} {ad : Nat → Nat} {MM : Mem} {X : CT} (hX : Cx l { frames := 7, cells := 0, slots := 0, locals := 186 } cL_isAll RL 7 (some .boolean) G ad X) {k9 : Int32 → Int32 → Int32 → Int32 → Mem → Option Rv} (hk9 : ∀ (x1 : Int32) (x2 : Int32) (x3 : Int32) (x4 : Int32) (M : Mem) {L : List (Option Value)}, lsub [some (.ref (ad 0)), some (.int x1), some (.int x2), some (.int x3), some (.int x4), none, none] L → KF l { frames := 7, cells := 0, slots := 0, locals := 186 } 7 G ad (EC G ad MM) (QP PostI G ad (EC G ad MM)) X (k9 x1 x2 x3 x4 M) L 9 [] M) : ∀ (x1 : Int32) (x2 : Int32) (x4 : Int32) (s0 : Int32) (M : Mem) {L : List (Option Value)}, lsub [some (.ref (ad 0)), some (.int x1), some (.int x2), none, some (.int x4), none, none] L → KF l { frames := 7, cells := 0, slots := 0, locals := 186 } 7 G ad (EC G ad MM) (QP PostI G ad (EC G ad MM)) X (f_L_isAll_38 k9 x1 x2 x4 s0 M) L 38 [.int s0] M := by
  intro x1 x2 x4 s0 M L hL
  unfold f_L_isAll_38
  refine KF.locals (lsub_le hL) ?_
  refine k_istore (L' := [some (.ref (ad 0)), some (.int x1), some (.int x2), none, some (.int x4), some (.int s0), none]) hX (by decide) rfl dL_isAll_38 ?_
  refine k_iload_n hX (i := 1) rfl rfl dL_isAll_40 ?_
  refine k_iload hX rfl dL_isAll_41 ?_
  refine k_if_eq (tgt := 50) hX dL_isAll_43 (by decide) (fun b1 => ?_) (fun b1 => ?_)
  · refine k_iconst (v := (nI 0)) hX rfl dL_isAll_50 ?_
    exact w_L_isAll_51 hX hk9 x2 x4 s0 (nI 0) x1 M ⟨rfl, rfl, rfl, rfl, trivial⟩
  refine k_iconst (v := (nI 1)) hX rfl dL_isAll_46 ?_
  refine k_goto (tgt := 51) hX dL_isAll_47 (by decide) ?_
  exact w_L_isAll_51 hX hk9 x2 x4 s0 (nI 1) x1 M ⟨rfl, rfl, rfl, rfl, trivial⟩
set_option maxHeartbeats 4000000 in
set_option maxRecDepth 100000 in
theorem w_L_isAll_272 {l : Launch} {G : GL} {ad : Nat → Nat} {MM : Mem} {X : CT} (hX : Cx l { frames := 7, cells := 0, slots := 0, locals := 186 } cL_isAll RL 7 (some .boolean) G ad X) {k190 : Int32 → Int32 → Mem → Option Rv} (hk190 : ∀ (x3 : Int32) (x4 : Int32) (M : Mem) {L : List (Option Value)}, lsub [some (.ref (ad 0)), none, none, some (.int x3), some (.int x4), none, none] L → KF l { frames := 7, cells := 0, slots := 0, locals := 186 } 7 G ad (EC G ad MM) (QP PostI G ad (EC G ad MM)) X (k190 x3 x4 M) L 190 [] M) : ∀ (x4 : Int32) (s0 : Int32) (M : Mem) {L : List (Option Value)}, lsub [some (.ref (ad 0)), none, none, none, some (.int x4), none, none] L → KF l { frames := 7, cells := 0, slots := 0, locals := 186 } 7 G ad (EC G ad MM) (QP PostI G ad (EC G ad MM)) X (f_L_isAll_272 k190 x4 s0 M) L 272 [.int s0] M := by
  intro x4 s0 M L hL
  unfold f_L_isAll_272
  refine KF.locals (lsub_le hL) ?_
  refine k_istore_n (L' := [some (.ref (ad 0)), none, none, some (.int s0), some (.int x4), none, none]) hX (i := 3) rfl (by decide) rfl dL_isAll_272 ?_
  refine k_iinc (v := x4 + nI 1) (L' := [some (.ref (ad 0)), none, none, some (.int s0), some (.int (x4 + nI 1)), none, none]) hX (i := 4) rfl rfl (by decide) rfl dL_isAll_273 ?_
  refine k_goto (tgt := 190) hX dL_isAll_276 (by decide) ?_
  exact hk190 s0 (x4 + nI 1) M ⟨rfl, rfl, rfl, trivial⟩
set_option maxHeartbeats 4000000 in
set_option maxRecDepth 100000 in
theorem w_L_isAll_267 {l : Launch} {G : GL} {ad : Nat → Nat} {MM : Mem} {X : CT} (hX : Cx l { frames := 7, cells := 0, slots := 0, locals := 186 } cL_isAll RL 7 (some .boolean) G ad X) {k190 : Int32 → Int32 → Mem → Option Rv} (hk190 : ∀ (x3 : Int32) (x4 : Int32) (M : Mem) {L : List (Option Value)}, lsub [some (.ref (ad 0)), none, none, some (.int x3), some (.int x4), none, none] L → KF l { frames := 7, cells := 0, slots := 0, locals := 186 } 7 G ad (EC G ad MM) (QP PostI G ad (EC G ad MM)) X (k190 x3 x4 M) L 190 [] M) : ∀ (x4 : Int32) (M : Mem) {L : List (Option Value)}, lsub [some (.ref (ad 0)), none, none, none, some (.int x4), none, none] L → KF l { frames := 7, cells := 0, slots := 0, locals := 186 } 7 G ad (EC G ad MM) (QP PostI G ad (EC G ad MM)) X (f_L_isAll_267 k190 x4 M) L 267 [] M := by
  intro x4 M L hL
  unfold f_L_isAll_267
  refine KF.locals (lsub_le hL) ?_
  refine k_iconst (v := (nI 1)) hX rfl dL_isAll_267 ?_
  refine k_goto (tgt := 272) hX dL_isAll_268 (by decide) ?_
  exact w_L_isAll_272 hX hk190 x4 (nI 1) M ⟨rfl, rfl, trivial⟩
set_option maxHeartbeats 4000000 in
set_option maxRecDepth 100000 in
theorem w_L_isAll_271 {l : Launch} {G : GL} {ad : Nat → Nat} {MM : Mem} {X : CT} (hX : Cx l { frames := 7, cells := 0, slots := 0, locals := 186 } cL_isAll RL 7 (some .boolean) G ad X) {k190 : Int32 → Int32 → Mem → Option Rv} (hk190 : ∀ (x3 : Int32) (x4 : Int32) (M : Mem) {L : List (Option Value)}, lsub [some (.ref (ad 0)), none, none, some (.int x3), some (.int x4), none, none] L → KF l { frames := 7, cells := 0, slots := 0, locals := 186 } 7 G ad (EC G ad MM) (QP PostI G ad (EC G ad MM)) X (k190 x3 x4 M) L 190 [] M) : ∀ (x4 : Int32) (M : Mem) {L : List (Option Value)}, lsub [some (.ref (ad 0)), none, none, none, some (.int x4), none, none] L → KF l { frames := 7, cells := 0, slots := 0, locals := 186 } 7 G ad (EC G ad MM) (QP PostI G ad (EC G ad MM)) X (f_L_isAll_271 k190 x4 M) L 271 [] M := by
  intro x4 M L hL
  unfold f_L_isAll_271
  refine KF.locals (lsub_le hL) ?_
  refine k_iconst (v := (nI 0)) hX rfl dL_isAll_271 ?_
  exact w_L_isAll_272 hX hk190 x4 (nI 0) M ⟨rfl, rfl, trivial⟩
set_option maxHeartbeats 4000000 in
set_option maxRecDepth 100000 in
theorem w_L_isAll_279 {l : Launch} {G : GL} {ad : Nat → Nat} {MM : Mem} {X : CT} (hX : Cx l { frames := 7, cells := 0, slots := 0, locals := 186 } cL_isAll RL 7 (some .boolean) G ad X) : ∀ (x3 : Int32) (M : Mem) {L : List (Option Value)}, lsub [none, none, none, some (.int x3), none, none, none] L → KF l { frames := 7, cells := 0, slots := 0, locals := 186 } 7 G ad (EC G ad MM) (QP PostI G ad (EC G ad MM)) X (f_L_isAll_279 x3 M) L 279 [] M := by
  intro x3 M L hL
  unfold f_L_isAll_279
  refine KF.locals (lsub_le hL) ?_
  refine k_iload_n hX (i := 3) rfl rfl dL_isAll_279 ?_
  exact k_zret hX dL_isAll_280
set_option maxHeartbeats 4000000 in
set_option maxRecDepth 100000 in
theorem w_L_isAll_190 {l : Launch} {G : GL} {ad : Nat → Nat} {MM : Mem} {X : CT} (hX : Cx l { frames := 7, cells := 0, slots := 0, locals := 186 } cL_isAll RL 7 (some .boolean) G ad X) : ∀ (n : Nat), ∀ (x3 : Int32) (x4 : Int32) (M : Mem) {L : List (Option Value)}, lsub [some (.ref (ad 0)), none, none, some (.int x3), some (.int x4), none, none] L → KF l { frames := 7, cells := 0, slots := 0, locals := 186 } 7 G ad (EC G ad MM) (QP PostI G ad (EC G ad MM)) X (f_L_isAll_190 n x3 x4 M) L 190 [] M := by
  intro n
  induction n with
  | zero =>
    intro x3 x4 M L hL
    exact KF.none'
  | succ n ih =>
    intro x3 x4 M L hL
    rw [f_L_isAll_190]
    refine KF.locals (lsub_le hL) ?_
    refine k_iload hX rfl dL_isAll_190 ?_
    refine k_aload_n hX (i := 0) rfl rfl dL_isAll_192 ?_
    refine k_iconst (v := (nI 4)) hX rfl dL_isAll_193 ?_
    refine k_callVI (vs := [.int (nI 4)]) hX (fun _ h9 => m_X6_count hX.2.2.2.2.2.2.1  h9) io_0 rfl ml_L_50 ⟨Nat.le_of_ble_eq_true rfl, Nat.le_of_ble_eq_true rfl⟩ rfl rfl (Nat.le_of_ble_eq_true rfl) dL_isAll_194 (fun q1 => ?_)
    refine k_icmp_ge (tgt := 279) hX dL_isAll_197 (by decide) (fun b2 => ?_) (fun b2 => ?_)
    · exact w_L_isAll_279 hX x3 q1.2 ⟨rfl, trivial⟩
    refine k_iload_n hX (i := 3) rfl rfl dL_isAll_200 ?_
    refine k_if_eq (tgt := 279) hX dL_isAll_201 (by decide) (fun b3 => ?_) (fun b3 => ?_)
    · exact w_L_isAll_279 hX x3 q1.2 ⟨rfl, trivial⟩
    refine k_aload_n hX (i := 0) rfl rfl dL_isAll_204 ?_
    refine k_iload hX rfl dL_isAll_205 ?_
    refine k_iconst (v := (nI 1)) hX rfl dL_isAll_207 ?_
    refine k_isub hX dL_isAll_208 ?_
    refine k_callVI (vs := [.int (x4 - (nI 1))]) hX (fun _ h9 => m_X6_open hX.2.2.2.2.2.2.1  h9) io_0 rfl ml_L_57 ⟨Nat.le_of_ble_eq_true rfl, Nat.le_of_ble_eq_true rfl⟩ rfl rfl (Nat.le_of_ble_eq_true rfl) dL_isAll_209 (fun q4 => ?_)
    refine k_istore (L' := [some (.ref (ad 0)), none, none, some (.int x3), some (.int x4), some (.int q4.1), none]) hX (by decide) rfl dL_isAll_212 ?_
    refine k_aload_n hX (i := 0) rfl rfl dL_isAll_214 ?_
    refine k_iload hX rfl dL_isAll_215 ?_
    refine k_callVI (vs := [.int x4]) hX (fun _ h9 => m_X6_open hX.2.2.2.2.2.2.1  h9) io_0 rfl ml_L_57 ⟨Nat.le_of_ble_eq_true rfl, Nat.le_of_ble_eq_true rfl⟩ rfl rfl (Nat.le_of_ble_eq_true rfl) dL_isAll_217 (fun q5 => ?_)
    refine k_istore (L' := [some (.ref (ad 0)), none, none, some (.int x3), some (.int x4), some (.int q4.1), some (.int q5.1)]) hX (by decide) rfl dL_isAll_220 ?_
    refine k_aload_n hX (i := 0) rfl rfl dL_isAll_222 ?_
    refine k_iload hX rfl dL_isAll_223 ?_
    refine k_bipush (v := (nI 7)) hX rfl dL_isAll_225 ?_
    refine k_callVI (vs := [.int q4.1, .int (nI 7)]) hX (fun _ h9 => m_X6_wish hX.2.2.2.2.2.2.1  h9) io_0 rfl ml_L_36 ⟨Nat.le_of_ble_eq_true rfl, Nat.le_of_ble_eq_true rfl⟩ rfl rfl (Nat.le_of_ble_eq_true rfl) dL_isAll_227 (fun q6 => ?_)
    refine k_aload_n hX (i := 0) rfl rfl dL_isAll_230 ?_
    refine k_iload hX rfl dL_isAll_231 ?_
    refine k_bipush (v := (nI 7)) hX rfl dL_isAll_233 ?_
    refine k_callVI (vs := [.int q5.1, .int (nI 7)]) hX (fun _ h9 => m_X6_wish hX.2.2.2.2.2.2.1  h9) io_0 rfl ml_L_36 ⟨Nat.le_of_ble_eq_true rfl, Nat.le_of_ble_eq_true rfl⟩ rfl rfl (Nat.le_of_ble_eq_true rfl) dL_isAll_235 (fun q7 => ?_)
    refine k_icmp_gt (tgt := 267) hX dL_isAll_238 (by decide) (fun b8 => ?_) (fun b8 => ?_)
    · exact w_L_isAll_267 hX ih x4 q7.2 ⟨rfl, rfl, trivial⟩
    refine k_aload_n hX (i := 0) rfl rfl dL_isAll_241 ?_
    refine k_iload hX rfl dL_isAll_242 ?_
    refine k_bipush (v := (nI 7)) hX rfl dL_isAll_244 ?_
    refine k_callVI (vs := [.int q4.1, .int (nI 7)]) hX (fun _ h9 => m_X6_wish hX.2.2.2.2.2.2.1  h9) io_0 rfl ml_L_36 ⟨Nat.le_of_ble_eq_true rfl, Nat.le_of_ble_eq_true rfl⟩ rfl rfl (Nat.le_of_ble_eq_true rfl) dL_isAll_246 (fun q9 => ?_)
    refine k_aload_n hX (i := 0) rfl rfl dL_isAll_249 ?_
    refine k_iload hX rfl dL_isAll_250 ?_
    refine k_bipush (v := (nI 7)) hX rfl dL_isAll_252 ?_
    refine k_callVI (vs := [.int q5.1, .int (nI 7)]) hX (fun _ h9 => m_X6_wish hX.2.2.2.2.2.2.1  h9) io_0 rfl ml_L_36 ⟨Nat.le_of_ble_eq_true rfl, Nat.le_of_ble_eq_true rfl⟩ rfl rfl (Nat.le_of_ble_eq_true rfl) dL_isAll_254 (fun q10 => ?_)
    refine k_icmp_ne (tgt := 271) hX dL_isAll_257 (by decide) (fun b11 => ?_) (fun b11 => ?_)
    · exact w_L_isAll_271 hX ih x4 q10.2 ⟨rfl, rfl, trivial⟩
    refine k_iload hX rfl dL_isAll_260 ?_
    refine k_iload hX rfl dL_isAll_262 ?_
    refine k_icmp_ge (tgt := 271) hX dL_isAll_264 (by decide) (fun b12 => ?_) (fun b12 => ?_)
    · exact w_L_isAll_271 hX ih x4 q10.2 ⟨rfl, rfl, trivial⟩
    exact w_L_isAll_267 hX ih x4 q10.2 ⟨rfl, rfl, trivial⟩
set_option maxHeartbeats 4000000 in
set_option maxRecDepth 100000 in
theorem w_L_isAll_186 {l : Launch} {G : GL} {ad : Nat → Nat} {MM : Mem} {X : CT} (hX : Cx l { frames := 7, cells := 0, slots := 0, locals := 186 } cL_isAll RL 7 (some .boolean) G ad X) : ∀ (s0 : Int32) (M : Mem) {L : List (Option Value)}, lsub [some (.ref (ad 0)), none, none, none, none, none, none] L → KF l { frames := 7, cells := 0, slots := 0, locals := 186 } 7 G ad (EC G ad MM) (QP PostI G ad (EC G ad MM)) X (f_L_isAll_186 s0 M) L 186 [.int s0] M := by
  intro s0 M L hL
  unfold f_L_isAll_186
  refine KF.locals (lsub_le hL) ?_
  refine k_istore_n (L' := [some (.ref (ad 0)), none, none, some (.int s0), none, none, none]) hX (i := 3) rfl (by decide) rfl dL_isAll_186 ?_
  refine k_iconst (v := (nI 1)) hX rfl dL_isAll_187 ?_
  refine k_istore (L' := [some (.ref (ad 0)), none, none, some (.int s0), some (.int (nI 1)), none, none]) hX (by decide) rfl dL_isAll_188 ?_
  exact w_L_isAll_190 hX fuelN s0 (nI 1) M ⟨rfl, rfl, rfl, trivial⟩
set_option maxHeartbeats 4000000 in
set_option maxRecDepth 100000 in
theorem w_L_isAll_185 {l : Launch} {G : GL} {ad : Nat → Nat} {MM : Mem} {X : CT} (hX : Cx l { frames := 7, cells := 0, slots := 0, locals := 186 } cL_isAll RL 7 (some .boolean) G ad X) : ∀ (M : Mem) {L : List (Option Value)}, lsub [some (.ref (ad 0)), none, none, none, none, none, none] L → KF l { frames := 7, cells := 0, slots := 0, locals := 186 } 7 G ad (EC G ad MM) (QP PostI G ad (EC G ad MM)) X (f_L_isAll_185 M) L 185 [] M := by
  intro M L hL
  unfold f_L_isAll_185
  refine KF.locals (lsub_le hL) ?_
  refine k_iconst (v := (nI 0)) hX rfl dL_isAll_185 ?_
  exact w_L_isAll_186 hX (nI 0) M ⟨rfl, trivial⟩
set_option maxHeartbeats 4000000 in
set_option maxRecDepth 100000 in
theorem w_L_isAll_125 {l : Launch} {G : GL} {ad : Nat → Nat} {MM : Mem} {X : CT} (hX : Cx l { frames := 7, cells := 0, slots := 0, locals := 186 } cL_isAll RL 7 (some .boolean) G ad X) : ∀ (x1 : Int32) (x2 : Int32) (x3 : Int32) (M : Mem) {L : List (Option Value)}, lsub [some (.ref (ad 0)), some (.int x1), some (.int x2), some (.int x3), none, none, none] L → KF l { frames := 7, cells := 0, slots := 0, locals := 186 } 7 G ad (EC G ad MM) (QP PostI G ad (EC G ad MM)) X (f_L_isAll_125 x1 x2 x3 M) L 125 [] M := by
  intro x1 x2 x3 M L hL
  unfold f_L_isAll_125
  refine KF.locals (lsub_le hL) ?_
  refine k_iload_n hX (i := 3) rfl rfl dL_isAll_125 ?_
  refine k_if_eq (tgt := 185) hX dL_isAll_126 (by decide) (fun b1 => ?_) (fun b1 => ?_)
  · exact w_L_isAll_185 hX M ⟨rfl, trivial⟩
  refine k_iload_n hX (i := 1) rfl rfl dL_isAll_129 ?_
  refine k_aload_n hX (i := 0) rfl rfl dL_isAll_130 ?_
  refine k_iconst (v := (nI 2)) hX rfl dL_isAll_131 ?_
  refine k_callVI (vs := [.int (nI 2)]) hX (fun _ h9 => m_X6_count hX.2.2.2.2.2.2.1  h9) io_0 rfl ml_L_50 ⟨Nat.le_of_ble_eq_true rfl, Nat.le_of_ble_eq_true rfl⟩ rfl rfl (Nat.le_of_ble_eq_true rfl) dL_isAll_132 (fun q2 => ?_)
  refine k_icmp_ne (tgt := 185) hX dL_isAll_135 (by decide) (fun b3 => ?_) (fun b3 => ?_)
  · exact w_L_isAll_185 hX q2.2 ⟨rfl, trivial⟩
  refine k_iload_n hX (i := 2) rfl rfl dL_isAll_138 ?_
  refine k_aload_n hX (i := 0) rfl rfl dL_isAll_139 ?_
  refine k_iconst (v := (nI 5)) hX rfl dL_isAll_140 ?_
  refine k_callVI (vs := [.int (nI 5)]) hX (fun _ h9 => m_X6_count hX.2.2.2.2.2.2.1  h9) io_0 rfl ml_L_50 ⟨Nat.le_of_ble_eq_true rfl, Nat.le_of_ble_eq_true rfl⟩ rfl rfl (Nat.le_of_ble_eq_true rfl) dL_isAll_141 (fun q4 => ?_)
  refine k_bipush (v := (nI 100)) hX rfl dL_isAll_144 ?_
  refine k_aload_n hX (i := 0) rfl rfl dL_isAll_146 ?_
  refine k_iconst (v := (nI 4)) hX rfl dL_isAll_147 ?_
  refine k_callVI (vs := [.int (nI 4)]) hX (fun _ h9 => m_X6_count hX.2.2.2.2.2.2.1  h9) io_0 rfl ml_L_50 ⟨Nat.le_of_ble_eq_true rfl, Nat.le_of_ble_eq_true rfl⟩ rfl rfl (Nat.le_of_ble_eq_true rfl) dL_isAll_148 (fun q5 => ?_)
  refine k_imul hX dL_isAll_151 ?_
  refine k_iadd hX dL_isAll_152 ?_
  refine k_sipush (v := (nI 10000)) hX rfl dL_isAll_153 ?_
  refine k_aload_n hX (i := 0) rfl rfl dL_isAll_156 ?_
  refine k_bipush (v := (nI 6)) hX rfl dL_isAll_157 ?_
  refine k_callVI (vs := [.int (nI 6)]) hX (fun _ h9 => m_X6_count hX.2.2.2.2.2.2.1  h9) io_0 rfl ml_L_50 ⟨Nat.le_of_ble_eq_true rfl, Nat.le_of_ble_eq_true rfl⟩ rfl rfl (Nat.le_of_ble_eq_true rfl) dL_isAll_159 (fun q6 => ?_)
  refine k_imul hX dL_isAll_162 ?_
  refine k_iadd hX dL_isAll_163 ?_
  refine k_icmp_ne (tgt := 185) hX dL_isAll_164 (by decide) (fun b7 => ?_) (fun b7 => ?_)
  · exact w_L_isAll_185 hX q6.2 ⟨rfl, trivial⟩
  refine k_aload_n hX (i := 0) rfl rfl dL_isAll_167 ?_
  refine k_aload_n hX (i := 0) rfl rfl dL_isAll_168 ?_
  refine k_iconst (v := (nI 4)) hX rfl dL_isAll_169 ?_
  refine k_callVI (vs := [.int (nI 4)]) hX (fun _ h9 => m_X6_count hX.2.2.2.2.2.2.1  h9) io_0 rfl ml_L_50 ⟨Nat.le_of_ble_eq_true rfl, Nat.le_of_ble_eq_true rfl⟩ rfl rfl (Nat.le_of_ble_eq_true rfl) dL_isAll_170 (fun q8 => ?_)
  refine k_callVI (vs := [.int q8.1]) hX (fun _ h9 => m_X6_open hX.2.2.2.2.2.2.1  h9) io_0 rfl ml_L_57 ⟨Nat.le_of_ble_eq_true rfl, Nat.le_of_ble_eq_true rfl⟩ rfl rfl (Nat.le_of_ble_eq_true rfl) dL_isAll_173 (fun q9 => ?_)
  refine k_bipush (v := (-5)) hX rfl dL_isAll_176 ?_
  refine k_icmp_ne (tgt := 185) hX dL_isAll_178 (by decide) (fun b10 => ?_) (fun b10 => ?_)
  · exact w_L_isAll_185 hX q9.2 ⟨rfl, trivial⟩
  refine k_iconst (v := (nI 1)) hX rfl dL_isAll_181 ?_
  refine k_goto (tgt := 186) hX dL_isAll_182 (by decide) ?_
  exact w_L_isAll_186 hX (nI 1) q9.2 ⟨rfl, trivial⟩
set_option maxHeartbeats 4000000 in
set_option maxRecDepth 100000 in
theorem w_L_isAll_9 {l : Launch} {G : GL} {ad : Nat → Nat} {MM : Mem} {X : CT} (hX : Cx l { frames := 7, cells := 0, slots := 0, locals := 186 } cL_isAll RL 7 (some .boolean) G ad X) : ∀ (n : Nat), ∀ (x1 : Int32) (x2 : Int32) (x3 : Int32) (x4 : Int32) (M : Mem) {L : List (Option Value)}, lsub [some (.ref (ad 0)), some (.int x1), some (.int x2), some (.int x3), some (.int x4), none, none] L → KF l { frames := 7, cells := 0, slots := 0, locals := 186 } 7 G ad (EC G ad MM) (QP PostI G ad (EC G ad MM)) X (f_L_isAll_9 n x1 x2 x3 x4 M) L 9 [] M := by
  intro n
  induction n with
  | zero =>
    intro x1 x2 x3 x4 M L hL
    exact KF.none'
  | succ n ih =>
    intro x1 x2 x3 x4 M L hL
    rw [f_L_isAll_9]
    refine KF.locals (lsub_le hL) ?_
    refine k_iload hX rfl dL_isAll_9 ?_
    refine k_aload_n hX (i := 0) rfl rfl dL_isAll_11 ?_
    refine k_iconst (v := (nI 3)) hX rfl dL_isAll_12 ?_
    refine k_callVI (vs := [.int (nI 3)]) hX (fun _ h9 => m_X6_count hX.2.2.2.2.2.2.1  h9) io_0 rfl ml_L_50 ⟨Nat.le_of_ble_eq_true rfl, Nat.le_of_ble_eq_true rfl⟩ rfl rfl (Nat.le_of_ble_eq_true rfl) dL_isAll_13 (fun q1 => ?_)
    refine k_icmp_ge (tgt := 125) hX dL_isAll_16 (by decide) (fun b2 => ?_) (fun b2 => ?_)
    · exact w_L_isAll_125 hX x1 x2 x3 q1.2 ⟨rfl, rfl, rfl, rfl, trivial⟩
    refine k_iload_n hX (i := 3) rfl rfl dL_isAll_19 ?_
    refine k_if_eq (tgt := 125) hX dL_isAll_20 (by decide) (fun b3 => ?_) (fun b3 => ?_)
    · exact w_L_isAll_125 hX x1 x2 x3 q1.2 ⟨rfl, rfl, rfl, rfl, trivial⟩
    refine k_aload_n hX (i := 0) rfl rfl dL_isAll_23 ?_
    refine k_iload hX rfl dL_isAll_24 ?_
    refine k_iconst (v := (nI 0)) hX rfl dL_isAll_26 ?_
    refine k_callVI (vs := [.int x4, .int (nI 0)]) hX (fun _ h9 => m_X6_wish hX.2.2.2.2.2.2.1  h9) io_0 rfl ml_L_36 ⟨Nat.le_of_ble_eq_true rfl, Nat.le_of_ble_eq_true rfl⟩ rfl rfl (Nat.le_of_ble_eq_true rfl) dL_isAll_27 (fun q4 => ?_)
    refine k_if_lt (tgt := 37) hX dL_isAll_30 (by decide) (fun b5 => ?_) (fun b5 => ?_)
    · refine k_iconst (v := (nI 0)) hX rfl dL_isAll_37 ?_
      exact w_L_isAll_38 hX ih x1 x2 x4 (nI 0) q4.2 ⟨rfl, rfl, rfl, rfl, trivial⟩
    refine k_iconst (v := (nI 1)) hX rfl dL_isAll_33 ?_
    refine k_goto (tgt := 38) hX dL_isAll_34 (by decide) ?_
    exact w_L_isAll_38 hX ih x1 x2 x4 (nI 1) q4.2 ⟨rfl, rfl, rfl, rfl, trivial⟩
set_option maxHeartbeats 4000000 in
set_option maxRecDepth 100000 in
theorem w_L_isAll {l : Launch} {G : GL} {ad : Nat → Nat} {MM : Mem} {X : CT} (hX : Cx l { frames := 7, cells := 0, slots := 0, locals := 186 } cL_isAll RL 7 (some .boolean) G ad X) {M : Mem} : KF l { frames := 7, cells := 0, slots := 0, locals := 186 } 7 G ad (EC G ad MM) (QP PostI G ad (EC G ad MM)) X (f_L_isAll M) [some (.ref (ad 0)), none, none, none, none, none, none] 0 [] M := by
  unfold f_L_isAll
  refine k_iconst (v := (nI 0)) hX rfl dL_isAll_0 ?_
  refine k_istore_n (L' := [some (.ref (ad 0)), some (.int (nI 0)), none, none, none, none, none]) hX (i := 1) rfl (by decide) rfl dL_isAll_1 ?_
  refine k_iconst (v := (nI 0)) hX rfl dL_isAll_2 ?_
  refine k_istore_n (L' := [some (.ref (ad 0)), some (.int (nI 0)), some (.int (nI 0)), none, none, none, none]) hX (i := 2) rfl (by decide) rfl dL_isAll_3 ?_
  refine k_iconst (v := (nI 1)) hX rfl dL_isAll_4 ?_
  refine k_istore_n (L' := [some (.ref (ad 0)), some (.int (nI 0)), some (.int (nI 0)), some (.int (nI 1)), none, none, none]) hX (i := 3) rfl (by decide) rfl dL_isAll_5 ?_
  refine k_iconst (v := (nI 0)) hX rfl dL_isAll_6 ?_
  refine k_istore (L' := [some (.ref (ad 0)), some (.int (nI 0)), some (.int (nI 0)), some (.int (nI 1)), some (.int (nI 0)), none, none]) hX (by decide) rfl dL_isAll_7 ?_
  exact w_L_isAll_9 hX fuelN (nI 0) (nI 0) (nI 1) (nI 0) M ⟨rfl, rfl, rfl, rfl, rfl, trivial⟩
set_option maxRecDepth 100000 in
theorem m_L_isAll {l : Launch} {G : GL} {ad : Nat → Nat} {MM : Mem} (hAd : AdOK G ad) {M : Mem} {r : Rv} (h : f_L_isAll M = some r) : Ct PostI l G ad (EC G ad MM) yL_isAll cL_isAll 7 (some .boolean) 7 186 [.ref (ad 0)] M r := ct_of' hAd (by decide +kernel) (List.forall_mem_cons.mpr ⟨rfl, (fun _ h => absurd h List.not_mem_nil)⟩) (Nat.le_of_ble_eq_true rfl) (L := [some (.ref (ad 0)), none, none, none, none, none, none]) rfl (fun _ hX => w_L_isAll hX) h
set_option maxHeartbeats 4000000 in
set_option maxRecDepth 100000 in
theorem w_L_happens_75 {l : Launch} {G : GL} {ad : Nat → Nat} {MM : Mem} {X : CT} (hX : Cx l { frames := 8, cells := 0, slots := 0, locals := 204 } cL_happens RL 10 (some .boolean) G ad X) {k44 : Int32 → Int32 → Int32 → Int32 → Int32 → Int32 → Int32 → Int32 → Mem → Option Rv} (hk44 : ∀ (x1 : Int32) (x2 : Int32) (x3 : Int32) (x4 : Int32) (x5 : Int32) (x6 : Int32) (x7 : Int32) (x8 : Int32) (M : Mem) {L : List (Option Value)}, lsub [some (.ref (ad 0)), some (.int x1), some (.int x2), some (.int x3), some (.int x4), some (.int x5), some (.int x6), some (.int x7), some (.int x8), none] L → KF l { frames := 8, cells := 0, slots := 0, locals := 204 } 10 G ad (EC G ad MM) (QP PostI G ad (EC G ad MM)) X (k44 x1 x2 x3 x4 x5 x6 x7 x8 M) L 44 [] M) : ∀ (x1 : Int32) (x2 : Int32) (x3 : Int32) (x4 : Int32) (x5 : Int32) (x7 : Int32) (x8 : Int32) (s0 : Int32) (s1 : Int32) (M : Mem) {L : List (Option Value)}, lsub [some (.ref (ad 0)), some (.int x1), some (.int x2), some (.int x3), some (.int x4), some (.int x5), none, some (.int x7), some (.int x8), none] L → KF l { frames := 8, cells := 0, slots := 0, locals := 204 } 10 G ad (EC G ad MM) (QP PostI G ad (EC G ad MM)) X (f_L_happens_75 k44 x1 x2 x3 x4 x5 x7 x8 s0 s1 M) L 75 [.int s0, .int s1] M := by
  intro x1 x2 x3 x4 x5 x7 x8 s0 s1 M L hL
  unfold f_L_happens_75
  refine KF.locals (lsub_le hL) ?_
  refine k_ior hX dL_happens_75 ?_
  refine k_istore (L' := [some (.ref (ad 0)), some (.int x1), some (.int x2), some (.int x3), some (.int x4), some (.int x5), some (.int (s1 ||| s0)), some (.int x7), some (.int x8), none]) hX (by decide) rfl dL_happens_76 ?_
  refine k_iinc (v := x8 + nI 1) (L' := [some (.ref (ad 0)), some (.int x1), some (.int x2), some (.int x3), some (.int x4), some (.int x5), some (.int (s1 ||| s0)), some (.int x7), some (.int (x8 + nI 1)), none]) hX (i := 8) rfl rfl (by decide) rfl dL_happens_78 ?_
  refine k_goto (tgt := 44) hX dL_happens_81 (by decide) ?_
  exact hk44 x1 x2 x3 x4 x5 (s1 ||| s0) x7 (x8 + nI 1) M ⟨rfl, rfl, rfl, rfl, rfl, rfl, rfl, rfl, rfl, trivial⟩
set_option maxHeartbeats 4000000 in
set_option maxRecDepth 100000 in
theorem w_L_happens_118 {l : Launch} {G : GL} {ad : Nat → Nat} {MM : Mem} {X : CT} (hX : Cx l { frames := 8, cells := 0, slots := 0, locals := 204 } cL_happens RL 10 (some .boolean) G ad X) : ∀ (s0 : Int32) (M : Mem) {L : List (Option Value)}, lsub [none, none, none, none, none, none, none, none, none, none] L → KF l { frames := 8, cells := 0, slots := 0, locals := 204 } 10 G ad (EC G ad MM) (QP PostI G ad (EC G ad MM)) X (f_L_happens_118 s0 M) L 118 [.int s0] M := by
  intro s0 M L hL
  unfold f_L_happens_118
  refine KF.locals (lsub_le hL) ?_
  exact k_zret hX dL_happens_118
set_option maxHeartbeats 4000000 in
set_option maxRecDepth 100000 in
theorem w_L_happens_117 {l : Launch} {G : GL} {ad : Nat → Nat} {MM : Mem} {X : CT} (hX : Cx l { frames := 8, cells := 0, slots := 0, locals := 204 } cL_happens RL 10 (some .boolean) G ad X) : ∀ (M : Mem) {L : List (Option Value)}, lsub [none, none, none, none, none, none, none, none, none, none] L → KF l { frames := 8, cells := 0, slots := 0, locals := 204 } 10 G ad (EC G ad MM) (QP PostI G ad (EC G ad MM)) X (f_L_happens_117 M) L 117 [] M := by
  intro M L hL
  unfold f_L_happens_117
  refine KF.locals (lsub_le hL) ?_
  refine k_iconst (v := (nI 0)) hX rfl dL_happens_117 ?_
  exact w_L_happens_118 hX (nI 0) M trivial
set_option maxHeartbeats 4000000 in
set_option maxRecDepth 100000 in
theorem w_L_happens_238 {l : Launch} {G : GL} {ad : Nat → Nat} {MM : Mem} {X : CT} (hX : Cx l { frames := 8, cells := 0, slots := 0, locals := 204 } cL_happens RL 10 (some .boolean) G ad X) : ∀ (s0 : Int32) (M : Mem) {L : List (Option Value)}, lsub [none, none, none, none, none, none, none, none, none, none] L → KF l { frames := 8, cells := 0, slots := 0, locals := 204 } 10 G ad (EC G ad MM) (QP PostI G ad (EC G ad MM)) X (f_L_happens_238 s0 M) L 238 [.int s0] M := by
  intro s0 M L hL
  unfold f_L_happens_238
  refine KF.locals (lsub_le hL) ?_
  exact k_zret hX dL_happens_238
set_option maxHeartbeats 4000000 in
set_option maxRecDepth 100000 in
theorem w_L_happens_233 {l : Launch} {G : GL} {ad : Nat → Nat} {MM : Mem} {X : CT} (hX : Cx l { frames := 8, cells := 0, slots := 0, locals := 204 } cL_happens RL 10 (some .boolean) G ad X) : ∀ (M : Mem) {L : List (Option Value)}, lsub [none, none, none, none, none, none, none, none, none, none] L → KF l { frames := 8, cells := 0, slots := 0, locals := 204 } 10 G ad (EC G ad MM) (QP PostI G ad (EC G ad MM)) X (f_L_happens_233 M) L 233 [] M := by
  intro M L hL
  unfold f_L_happens_233
  refine KF.locals (lsub_le hL) ?_
  refine k_iconst (v := (nI 1)) hX rfl dL_happens_233 ?_
  refine k_goto (tgt := 238) hX dL_happens_234 (by decide) ?_
  exact w_L_happens_238 hX (nI 1) M trivial
set_option maxHeartbeats 4000000 in
set_option maxRecDepth 100000 in
theorem w_L_happens_237 {l : Launch} {G : GL} {ad : Nat → Nat} {MM : Mem} {X : CT} (hX : Cx l { frames := 8, cells := 0, slots := 0, locals := 204 } cL_happens RL 10 (some .boolean) G ad X) : ∀ (M : Mem) {L : List (Option Value)}, lsub [none, none, none, none, none, none, none, none, none, none] L → KF l { frames := 8, cells := 0, slots := 0, locals := 204 } 10 G ad (EC G ad MM) (QP PostI G ad (EC G ad MM)) X (f_L_happens_237 M) L 237 [] M := by
  intro M L hL
  unfold f_L_happens_237
  refine KF.locals (lsub_le hL) ?_
  refine k_iconst (v := (nI 0)) hX rfl dL_happens_237 ?_
  exact w_L_happens_238 hX (nI 0) M trivial
set_option maxHeartbeats 4000000 in
set_option maxRecDepth 100000 in
theorem w_L_happens_230 {l : Launch} {G : GL} {ad : Nat → Nat} {MM : Mem} {X : CT} (hX : Cx l { frames := 8, cells := 0, slots := 0, locals := 204 } cL_happens RL 10 (some .boolean) G ad X) : ∀ (s0 : Int32) (s1 : Int32) (M : Mem) {L : List (Option Value)}, lsub [none, none, none, none, none, none, none, none, none, none] L → KF l { frames := 8, cells := 0, slots := 0, locals := 204 } 10 G ad (EC G ad MM) (QP PostI G ad (EC G ad MM)) X (f_L_happens_230 s0 s1 M) L 230 [.int s0, .int s1] M := by
  intro s0 s1 M L hL
  unfold f_L_happens_230
  refine KF.locals (lsub_le hL) ?_
  refine k_icmp_ne (tgt := 237) hX dL_happens_230 (by decide) (fun b1 => ?_) (fun b1 => ?_)
  · exact w_L_happens_237 hX M trivial
  exact w_L_happens_233 hX M trivial
set_option maxHeartbeats 4000000 in
set_option maxRecDepth 100000 in
theorem w_L_happens_172 {l : Launch} {G : GL} {ad : Nat → Nat} {MM : Mem} {X : CT} (hX : Cx l { frames := 8, cells := 0, slots := 0, locals := 204 } cL_happens RL 10 (some .boolean) G ad X) : ∀ (x2 : Int32) (x3 : Int32) (x5 : Int32) (x6 : Int32) (x7 : Int32) (s0 : Int32) (M : Mem) {L : List (Option Value)}, lsub [some (.ref (ad 0)), none, some (.int x2), some (.int x3), none, some (.int x5), some (.int x6), some (.int x7), none, none] L → KF l { frames := 8, cells := 0, slots := 0, locals := 204 } 10 G ad (EC G ad MM) (QP PostI G ad (EC G ad MM)) X (f_L_happens_172 x2 x3 x5 x6 x7 s0 M) L 172 [.int s0] M := by
  intro x2 x3 x5 x6 x7 s0 M L hL
  unfold f_L_happens_172
  refine KF.locals (lsub_le hL) ?_
  refine k_istore (L' := [some (.ref (ad 0)), none, some (.int x2), some (.int x3), none, some (.int x5), some (.int x6), some (.int x7), none, some (.int s0)]) hX (by decide) rfl dL_happens_172 ?_
  refine k_iload hX rfl dL_happens_174 ?_
  refine k_if_eq (tgt := 237) hX dL_happens_176 (by decide) (fun b1 => ?_) (fun b1 => ?_)
  · exact w_L_happens_237 hX M trivial
  refine k_iload_n hX (i := 3) rfl rfl dL_happens_179 ?_
  refine k_if_lt (tgt := 233) hX dL_happens_180 (by decide) (fun b2 => ?_) (fun b2 => ?_)
  · exact w_L_happens_233 hX M trivial
  refine k_aload_n hX (i := 0) rfl rfl dL_happens_183 ?_
  refine k_iload_n hX (i := 2) rfl rfl dL_happens_184 ?_
  refine k_iconst (v := (nI 0)) hX rfl dL_happens_185 ?_
  refine k_callVI (vs := [.int x2, .int (nI 0)]) hX (fun _ h9 => m_X6_wish hX.2.2.2.2.2.2.1  h9) io_0 rfl ml_L_36 ⟨Nat.le_of_ble_eq_true rfl, Nat.le_of_ble_eq_true rfl⟩ rfl rfl (Nat.le_of_ble_eq_true rfl) dL_happens_186 (fun q3 => ?_)
  refine k_iload_n hX (i := 3) rfl rfl dL_happens_189 ?_
  refine k_icmp_ne (tgt := 237) hX dL_happens_190 (by decide) (fun b4 => ?_) (fun b4 => ?_)
  · exact w_L_happens_237 hX q3.2 trivial
  refine k_iload hX rfl dL_happens_193 ?_
  refine k_if_eq (tgt := 233) hX dL_happens_195 (by decide) (fun b5 => ?_) (fun b5 => ?_)
  · exact w_L_happens_233 hX q3.2 trivial
  refine k_iload_n hX (i := 3) rfl rfl dL_happens_198 ?_
  refine k_iconst (v := (nI 2)) hX rfl dL_happens_199 ?_
  refine k_icmp_eq (tgt := 233) hX dL_happens_200 (by decide) (fun b6 => ?_) (fun b6 => ?_)
  · exact w_L_happens_233 hX q3.2 trivial
  refine k_aload_n hX (i := 0) rfl rfl dL_happens_203 ?_
  refine k_iload_n hX (i := 2) rfl rfl dL_happens_204 ?_
  refine k_iconst (v := (nI 4)) hX rfl dL_happens_205 ?_
  refine k_callVI (vs := [.int x2, .int (nI 4)]) hX (fun _ h9 => m_X6_wish hX.2.2.2.2.2.2.1  h9) io_0 rfl ml_L_36 ⟨Nat.le_of_ble_eq_true rfl, Nat.le_of_ble_eq_true rfl⟩ rfl rfl (Nat.le_of_ble_eq_true rfl) dL_happens_206 (fun q7 => ?_)
  refine k_iload hX rfl dL_happens_209 ?_
  refine k_icmp_ne (tgt := 237) hX dL_happens_211 (by decide) (fun b8 => ?_) (fun b8 => ?_)
  · exact w_L_happens_237 hX q7.2 trivial
  refine k_aload_n hX (i := 0) rfl rfl dL_happens_214 ?_
  refine k_iload_n hX (i := 2) rfl rfl dL_happens_215 ?_
  refine k_iconst (v := (nI 5)) hX rfl dL_happens_216 ?_
  refine k_callVI (vs := [.int x2, .int (nI 5)]) hX (fun _ h9 => m_X6_wish hX.2.2.2.2.2.2.1  h9) io_0 rfl ml_L_36 ⟨Nat.le_of_ble_eq_true rfl, Nat.le_of_ble_eq_true rfl⟩ rfl rfl (Nat.le_of_ble_eq_true rfl) dL_happens_217 (fun q9 => ?_)
  refine k_iload_n hX (i := 3) rfl rfl dL_happens_220 ?_
  refine k_if_ne (tgt := 229) hX dL_happens_221 (by decide) (fun b10 => ?_) (fun b10 => ?_)
  · refine k_iconst (v := (nI 0)) hX rfl dL_happens_229 ?_
    exact w_L_happens_230 hX (nI 0) q9.1 q9.2 trivial
  refine k_iload hX rfl dL_happens_224 ?_
  refine k_goto (tgt := 230) hX dL_happens_226 (by decide) ?_
  exact w_L_happens_230 hX x6 q9.1 q9.2 trivial
set_option maxHeartbeats 4000000 in
set_option maxRecDepth 100000 in
theorem w_L_happens_171 {l : Launch} {G : GL} {ad : Nat → Nat} {MM : Mem} {X : CT} (hX : Cx l { frames := 8, cells := 0, slots := 0, locals := 204 } cL_happens RL 10 (some .boolean) G ad X) : ∀ (x2 : Int32) (x3 : Int32) (x5 : Int32) (x6 : Int32) (x7 : Int32) (M : Mem) {L : List (Option Value)}, lsub [some (.ref (ad 0)), none, some (.int x2), some (.int x3), none, some (.int x5), some (.int x6), some (.int x7), none, none] L → KF l { frames := 8, cells := 0, slots := 0, locals := 204 } 10 G ad (EC G ad MM) (QP PostI G ad (EC G ad MM)) X (f_L_happens_171 x2 x3 x5 x6 x7 M) L 171 [] M := by
  intro x2 x3 x5 x6 x7 M L hL
  unfold f_L_happens_171
  refine KF.locals (lsub_le hL) ?_
  refine k_iconst (v := (nI 0)) hX rfl dL_happens_171 ?_
  exact w_L_happens_172 hX x2 x3 x5 x6 x7 (nI 0) M ⟨rfl, rfl, rfl, rfl, rfl, rfl, trivial⟩
set_option maxHeartbeats 4000000 in
set_option maxRecDepth 100000 in
theorem w_L_happens_44 {l : Launch} {G : GL} {ad : Nat → Nat} {MM : Mem} {X : CT} (hX : Cx l { frames := 8, cells := 0, slots := 0, locals := 204 } cL_happens RL 10 (some .boolean) G ad X) : ∀ (n : Nat), ∀ (x1 : Int32) (x2 : Int32) (x3 : Int32) (x4 : Int32) (x5 : Int32) (x6 : Int32) (x7 : Int32) (x8 : Int32) (M : Mem) {L : List (Option Value)}, lsub [some (.ref (ad 0)), some (.int x1), some (.int x2), some (.int x3), some (.int x4), some (.int x5), some (.int x6), some (.int x7), some (.int x8), none] L → KF l { frames := 8, cells := 0, slots := 0, locals := 204 } 10 G ad (EC G ad MM) (QP PostI G ad (EC G ad MM)) X (f_L_happens_44 n x1 x2 x3 x4 x5 x6 x7 x8 M) L 44 [] M := by
  intro n
  induction n with
  | zero =>
    intro x1 x2 x3 x4 x5 x6 x7 x8 M L hL
    exact KF.none'
  | succ n ih =>
    intro x1 x2 x3 x4 x5 x6 x7 x8 M L hL
    rw [f_L_happens_44]
    refine KF.locals (lsub_le hL) ?_
    refine k_iload hX rfl dL_happens_44 ?_
    refine k_bipush (v := (nI 6)) hX rfl dL_happens_46 ?_
    refine k_icmp_ge (tgt := 84) hX dL_happens_48 (by decide) (fun b1 => ?_) (fun b1 => ?_)
    · refine k_aload_n hX (i := 0) rfl rfl dL_happens_84 ?_
      refine k_iload_n hX (i := 1) rfl rfl dL_happens_85 ?_
      refine k_callVI (vs := [.int x1]) hX (fun _ h9 => m_X6_event hX.2.2.2.2.2.2.1  h9) io_0 rfl ml_L_60 ⟨Nat.le_of_ble_eq_true rfl, Nat.le_of_ble_eq_true rfl⟩ rfl rfl (Nat.le_of_ble_eq_true rfl) dL_happens_86 (fun q2 => ?_)
      refine k_istore (L' := [some (.ref (ad 0)), some (.int x1), some (.int x2), some (.int x3), some (.int x4), some (.int x5), some (.int x6), some (.int x7), some (.int q2.1), none]) hX (by decide) rfl dL_happens_89 ?_
      refine k_iload hX rfl dL_happens_91 ?_
      refine k_if_ge (tgt := 119) hX dL_happens_93 (by decide) (fun b3 => ?_) (fun b3 => ?_)
      · refine k_aload_n hX (i := 0) rfl rfl dL_happens_119 ?_
        refine k_iload hX rfl dL_happens_120 ?_
        refine k_callVI (vs := [.int x5]) hX (fun _ h9 => m_X6_at hX.2.2.2.2.2.2.1  h9) io_0 rfl ml_L_63 ⟨Nat.le_of_ble_eq_true rfl, Nat.le_of_ble_eq_true rfl⟩ rfl rfl (Nat.le_of_ble_eq_true rfl) dL_happens_122 (fun q4 => ?_)
        refine k_iload_n hX (i := 1) rfl rfl dL_happens_125 ?_
        refine k_icmp_ne (tgt := 171) hX dL_happens_126 (by decide) (fun b5 => ?_) (fun b5 => ?_)
        · exact w_L_happens_171 hX x2 x3 x5 x6 x7 q4.2 ⟨rfl, rfl, rfl, rfl, rfl, rfl, trivial⟩
        refine k_aload_n hX (i := 0) rfl rfl dL_happens_129 ?_
        refine k_iload hX rfl dL_happens_130 ?_
        refine k_iconst (v := (nI 1)) hX rfl dL_happens_132 ?_
        refine k_iadd hX dL_happens_133 ?_
        refine k_callVI (vs := [.int (x5 + (nI 1))]) hX (fun _ h9 => m_X6_at hX.2.2.2.2.2.2.1  h9) io_0 rfl ml_L_63 ⟨Nat.le_of_ble_eq_true rfl, Nat.le_of_ble_eq_true rfl⟩ rfl rfl (Nat.le_of_ble_eq_true rfl) dL_happens_134 (fun q6 => ?_)
        refine k_bipush (v := (-5)) hX rfl dL_happens_137 ?_
        refine k_icmp_ne (tgt := 171) hX dL_happens_139 (by decide) (fun b7 => ?_) (fun b7 => ?_)
        · exact w_L_happens_171 hX x2 x3 x5 x6 x7 q6.2 ⟨rfl, rfl, rfl, rfl, rfl, rfl, trivial⟩
        refine k_aload_n hX (i := 0) rfl rfl dL_happens_142 ?_
        refine k_iconst (v := (nI 4)) hX rfl dL_happens_143 ?_
        refine k_callVI (vs := [.int (nI 4)]) hX (fun _ h9 => m_X6_count hX.2.2.2.2.2.2.1  h9) io_0 rfl ml_L_50 ⟨Nat.le_of_ble_eq_true rfl, Nat.le_of_ble_eq_true rfl⟩ rfl rfl (Nat.le_of_ble_eq_true rfl) dL_happens_144 (fun q8 => ?_)
        refine k_iload hX rfl dL_happens_147 ?_
        refine k_iload hX rfl dL_happens_149 ?_
        refine k_isub hX dL_happens_151 ?_
        refine k_icmp_ne (tgt := 171) hX dL_happens_152 (by decide) (fun b9 => ?_) (fun b9 => ?_)
        · exact w_L_happens_171 hX x2 x3 x5 x6 x7 q8.2 ⟨rfl, rfl, rfl, rfl, rfl, rfl, trivial⟩
        refine k_aload_n hX (i := 0) rfl rfl dL_happens_155 ?_
        refine k_iconst (v := (nI 0)) hX rfl dL_happens_156 ?_
        refine k_callVI (vs := [.int (nI 0)]) hX (fun _ h9 => m_X6_count hX.2.2.2.2.2.2.1  h9) io_0 rfl ml_L_50 ⟨Nat.le_of_ble_eq_true rfl, Nat.le_of_ble_eq_true rfl⟩ rfl rfl (Nat.le_of_ble_eq_true rfl) dL_happens_157 (fun q10 => ?_)
        refine k_iload hX rfl dL_happens_160 ?_
        refine k_iconst (v := (nI 1)) hX rfl dL_happens_162 ?_
        refine k_iadd hX dL_happens_163 ?_
        refine k_icmp_ne (tgt := 171) hX dL_happens_164 (by decide) (fun b11 => ?_) (fun b11 => ?_)
        · exact w_L_happens_171 hX x2 x3 x5 x6 x7 q10.2 ⟨rfl, rfl, rfl, rfl, rfl, rfl, trivial⟩
        refine k_iconst (v := (nI 1)) hX rfl dL_happens_167 ?_
        refine k_goto (tgt := 172) hX dL_happens_168 (by decide) ?_
        exact w_L_happens_172 hX x2 x3 x5 x6 x7 (nI 1) q10.2 ⟨rfl, rfl, rfl, rfl, rfl, rfl, trivial⟩
      refine k_iload hX rfl dL_happens_96 ?_
      refine k_bipush (v := (-3)) hX rfl dL_happens_98 ?_
      refine k_icmp_ne (tgt := 117) hX dL_happens_100 (by decide) (fun b12 => ?_) (fun b12 => ?_)
      · exact w_L_happens_117 hX q2.2 trivial
      refine k_aload_n hX (i := 0) rfl rfl dL_happens_103 ?_
      refine k_iconst (v := (nI 0)) hX rfl dL_happens_104 ?_
      refine k_callVI (vs := [.int (nI 0)]) hX (fun _ h9 => m_X6_count hX.2.2.2.2.2.2.1  h9) io_0 rfl ml_L_50 ⟨Nat.le_of_ble_eq_true rfl, Nat.le_of_ble_eq_true rfl⟩ rfl rfl (Nat.le_of_ble_eq_true rfl) dL_happens_105 (fun q13 => ?_)
      refine k_iload hX rfl dL_happens_108 ?_
      refine k_icmp_ne (tgt := 117) hX dL_happens_110 (by decide) (fun b14 => ?_) (fun b14 => ?_)
      · exact w_L_happens_117 hX q13.2 trivial
      refine k_iconst (v := (nI 1)) hX rfl dL_happens_113 ?_
      refine k_goto (tgt := 118) hX dL_happens_114 (by decide) ?_
      exact w_L_happens_118 hX (nI 1) q13.2 trivial
    refine k_iload hX rfl dL_happens_51 ?_
    refine k_aload_n hX (i := 0) rfl rfl dL_happens_53 ?_
    refine k_iload_n hX (i := 2) rfl rfl dL_happens_54 ?_
    refine k_iload_n hX (i := 1) rfl rfl dL_happens_55 ?_
    refine k_iconst (v := (nI 1)) hX rfl dL_happens_56 ?_
    refine k_iload hX rfl dL_happens_57 ?_
    refine k_ishl hX dL_happens_59 ?_
    refine k_ixor hX dL_happens_60 ?_
    refine k_callVI (vs := [.int x2, .int (x1 ^^^ ((nI 1) <<< (x8 &&& nI 31)))]) hX (fun _ h9 => m_X6_would hX.2.2.2.2.2.2.1  h9) io_0 rfl ml_L_44 ⟨Nat.le_of_ble_eq_true rfl, Nat.le_of_ble_eq_true rfl⟩ rfl rfl (Nat.le_of_ble_eq_true rfl) dL_happens_61 (fun q15 => ?_)
    refine k_if_eq (tgt := 74) hX dL_happens_64 (by decide) (fun b16 => ?_) (fun b16 => ?_)
    · refine k_iconst (v := (nI 0)) hX rfl dL_happens_74 ?_
      exact w_L_happens_75 hX ih x1 x2 x3 x4 x5 x7 x8 (nI 0) x6 q15.2 ⟨rfl, rfl, rfl, rfl, rfl, rfl, rfl, rfl, trivial⟩
    refine k_iconst (v := (nI 1)) hX rfl dL_happens_67 ?_
    refine k_iload hX rfl dL_happens_68 ?_
    refine k_ishl hX dL_happens_70 ?_
    refine k_goto (tgt := 75) hX dL_happens_71 (by decide) ?_
    exact w_L_happens_75 hX ih x1 x2 x3 x4 x5 x7 x8 ((nI 1) <<< (x8 &&& nI 31)) x6 q15.2 ⟨rfl, rfl, rfl, rfl, rfl, rfl, rfl, rfl, trivial⟩
set_option maxHeartbeats 4000000 in
set_option maxRecDepth 100000 in
theorem w_L_happens_39 {l : Launch} {G : GL} {ad : Nat → Nat} {MM : Mem} {X : CT} (hX : Cx l { frames := 8, cells := 0, slots := 0, locals := 204 } cL_happens RL 10 (some .boolean) G ad X) : ∀ (x1 : Int32) (x2 : Int32) (x3 : Int32) (x4 : Int32) (x5 : Int32) (x6 : Int32) (s0 : Int32) (M : Mem) {L : List (Option Value)}, lsub [some (.ref (ad 0)), some (.int x1), some (.int x2), some (.int x3), some (.int x4), some (.int x5), some (.int x6), none, none, none] L → KF l { frames := 8, cells := 0, slots := 0, locals := 204 } 10 G ad (EC G ad MM) (QP PostI G ad (EC G ad MM)) X (f_L_happens_39 x1 x2 x3 x4 x5 x6 s0 M) L 39 [.int s0] M := by
  intro x1 x2 x3 x4 x5 x6 s0 M L hL
  unfold f_L_happens_39
  refine KF.locals (lsub_le hL) ?_
  refine k_istore (L' := [some (.ref (ad 0)), some (.int x1), some (.int x2), some (.int x3), some (.int x4), some (.int x5), some (.int x6), some (.int s0), none, none]) hX (by decide) rfl dL_happens_39 ?_
  refine k_iconst (v := (nI 0)) hX rfl dL_happens_41 ?_
  refine k_istore (L' := [some (.ref (ad 0)), some (.int x1), some (.int x2), some (.int x3), some (.int x4), some (.int x5), some (.int x6), some (.int s0), some (.int (nI 0)), none]) hX (by decide) rfl dL_happens_42 ?_
  exact w_L_happens_44 hX fuelN x1 x2 x3 x4 x5 x6 s0 (nI 0) M ⟨rfl, rfl, rfl, rfl, rfl, rfl, rfl, rfl, rfl, trivial⟩
set_option maxHeartbeats 4000000 in
set_option maxRecDepth 100000 in
theorem w_L_happens {l : Launch} {G : GL} {ad : Nat → Nat} {MM : Mem} {X : CT} (hX : Cx l { frames := 8, cells := 0, slots := 0, locals := 204 } cL_happens RL 10 (some .boolean) G ad X) {p2 : Int32} {p3 : Int32} {M : Mem} : KF l { frames := 8, cells := 0, slots := 0, locals := 204 } 10 G ad (EC G ad MM) (QP PostI G ad (EC G ad MM)) X (f_L_happens p2 p3 M) [some (.ref (ad 0)), some (.int p2), some (.int p3), none, none, none, none, none, none, none] 0 [] M := by
  unfold f_L_happens
  refine k_aload_n hX (i := 0) rfl rfl dL_happens_0 ?_
  refine k_iload_n hX (i := 2) rfl rfl dL_happens_1 ?_
  refine k_iload_n hX (i := 1) rfl rfl dL_happens_2 ?_
  refine k_callVI (vs := [.int p3, .int p2]) hX (fun _ h9 => m_X6_would hX.2.2.2.2.2.2.1  h9) io_0 rfl ml_L_44 ⟨Nat.le_of_ble_eq_true rfl, Nat.le_of_ble_eq_true rfl⟩ rfl rfl (Nat.le_of_ble_eq_true rfl) dL_happens_3 (fun q1 => ?_)
  refine k_istore_n (L' := [some (.ref (ad 0)), some (.int p2), some (.int p3), some (.int q1.1), none, none, none, none, none, none]) hX (i := 3) rfl (by decide) rfl dL_happens_6 ?_
  refine k_aload_n hX (i := 0) rfl rfl dL_happens_7 ?_
  refine k_iconst (v := (nI 4)) hX rfl dL_happens_8 ?_
  refine k_callVI (vs := [.int (nI 4)]) hX (fun _ h9 => m_X6_count hX.2.2.2.2.2.2.1  h9) io_0 rfl ml_L_50 ⟨Nat.le_of_ble_eq_true rfl, Nat.le_of_ble_eq_true rfl⟩ rfl rfl (Nat.le_of_ble_eq_true rfl) dL_happens_9 (fun q2 => ?_)
  refine k_istore (L' := [some (.ref (ad 0)), some (.int p2), some (.int p3), some (.int q1.1), some (.int q2.1), none, none, none, none, none]) hX (by decide) rfl dL_happens_12 ?_
  refine k_aload_n hX (i := 0) rfl rfl dL_happens_14 ?_
  refine k_iconst (v := (nI 0)) hX rfl dL_happens_15 ?_
  refine k_callVI (vs := [.int (nI 0)]) hX (fun _ h9 => m_X6_count hX.2.2.2.2.2.2.1  h9) io_0 rfl ml_L_50 ⟨Nat.le_of_ble_eq_true rfl, Nat.le_of_ble_eq_true rfl⟩ rfl rfl (Nat.le_of_ble_eq_true rfl) dL_happens_16 (fun q3 => ?_)
  refine k_istore (L' := [some (.ref (ad 0)), some (.int p2), some (.int p3), some (.int q1.1), some (.int q2.1), some (.int q3.1), none, none, none, none]) hX (by decide) rfl dL_happens_19 ?_
  refine k_iconst (v := (nI 0)) hX rfl dL_happens_21 ?_
  refine k_istore (L' := [some (.ref (ad 0)), some (.int p2), some (.int p3), some (.int q1.1), some (.int q2.1), some (.int q3.1), some (.int (nI 0)), none, none, none]) hX (by decide) rfl dL_happens_22 ?_
  refine k_aload_n hX (i := 0) rfl rfl dL_happens_24 ?_
  refine k_iload_n hX (i := 2) rfl rfl dL_happens_25 ?_
  refine k_iconst (v := (nI 0)) hX rfl dL_happens_26 ?_
  refine k_callVI (vs := [.int p3, .int (nI 0)]) hX (fun _ h9 => m_X6_wish hX.2.2.2.2.2.2.1  h9) io_0 rfl ml_L_36 ⟨Nat.le_of_ble_eq_true rfl, Nat.le_of_ble_eq_true rfl⟩ rfl rfl (Nat.le_of_ble_eq_true rfl) dL_happens_27 (fun q4 => ?_)
  refine k_iconst (v := (nI 2)) hX rfl dL_happens_30 ?_
  refine k_icmp_ne (tgt := 38) hX dL_happens_31 (by decide) (fun b5 => ?_) (fun b5 => ?_)
  · refine k_iconst (v := (nI 0)) hX rfl dL_happens_38 ?_
    exact w_L_happens_39 hX p2 p3 q1.1 q2.1 q3.1 (nI 0) (nI 0) q4.2 ⟨rfl, rfl, rfl, rfl, rfl, rfl, rfl, trivial⟩
  refine k_iconst (v := (nI 1)) hX rfl dL_happens_34 ?_
  refine k_goto (tgt := 39) hX dL_happens_35 (by decide) ?_
  exact w_L_happens_39 hX p2 p3 q1.1 q2.1 q3.1 (nI 0) (nI 1) q4.2 ⟨rfl, rfl, rfl, rfl, rfl, rfl, rfl, trivial⟩
set_option maxRecDepth 100000 in
theorem m_L_happens {l : Launch} {G : GL} {ad : Nat → Nat} {MM : Mem} (hAd : AdOK G ad) {p2 : Int32} {p3 : Int32} {M : Mem} {r : Rv} (h : f_L_happens p2 p3 M = some r) : Ct PostI l G ad (EC G ad MM) yL_happens cL_happens 10 (some .boolean) 8 204 [.ref (ad 0), .int p2, .int p3] M r := ct_of' hAd (by decide +kernel) (List.forall_mem_cons.mpr ⟨rfl, (List.forall_mem_cons.mpr ⟨rfl, (List.forall_mem_cons.mpr ⟨rfl, (fun _ h => absurd h List.not_mem_nil)⟩)⟩)⟩) (Nat.le_of_ble_eq_true rfl) (L := [some (.ref (ad 0)), some (.int p2), some (.int p3), none, none, none, none, none, none, none]) rfl (fun _ hX => w_L_happens hX) h
set_option maxHeartbeats 4000000 in
set_option maxRecDepth 100000 in
theorem w_L_joins_82 {l : Launch} {G : GL} {ad : Nat → Nat} {MM : Mem} {X : CT} (hX : Cx l { frames := 6, cells := 0, slots := 0, locals := 150 } cL_joins RL 11 (some .boolean) G ad X) : ∀ (s0 : Int32) (M : Mem) {L : List (Option Value)}, lsub [none, none, none, none, none, none, none, none, none, none, none] L → KF l { frames := 6, cells := 0, slots := 0, locals := 150 } 11 G ad (EC G ad MM) (QP PostI G ad (EC G ad MM)) X (f_L_joins_82 s0 M) L 82 [.int s0] M := by
  intro s0 M L hL
  unfold f_L_joins_82
  refine KF.locals (lsub_le hL) ?_
  exact k_zret hX dL_joins_82
set_option maxHeartbeats 4000000 in
set_option maxRecDepth 100000 in
theorem w_L_joins_71 {l : Launch} {G : GL} {ad : Nat → Nat} {MM : Mem} {X : CT} (hX : Cx l { frames := 6, cells := 0, slots := 0, locals := 150 } cL_joins RL 11 (some .boolean) G ad X) : ∀ (x8 : Int32) (M : Mem) {L : List (Option Value)}, lsub [none, none, none, none, none, none, none, none, some (.int x8), none, none] L → KF l { frames := 6, cells := 0, slots := 0, locals := 150 } 11 G ad (EC G ad MM) (QP PostI G ad (EC G ad MM)) X (f_L_joins_71 x8 M) L 71 [] M := by
  intro x8 M L hL
  unfold f_L_joins_71
  refine KF.locals (lsub_le hL) ?_
  refine k_iload hX rfl dL_joins_71 ?_
  refine k_iconst (v := (-1)) hX rfl dL_joins_73 ?_
  refine k_icmp_ne (tgt := 81) hX dL_joins_74 (by decide) (fun b1 => ?_) (fun b1 => ?_)
  · refine k_iconst (v := (nI 0)) hX rfl dL_joins_81 ?_
    exact w_L_joins_82 hX (nI 0) M trivial
  refine k_iconst (v := (nI 1)) hX rfl dL_joins_77 ?_
  refine k_goto (tgt := 82) hX dL_joins_78 (by decide) ?_
  exact w_L_joins_82 hX (nI 1) M trivial
set_option maxHeartbeats 4000000 in
set_option maxRecDepth 100000 in
theorem w_L_joins_100 {l : Launch} {G : GL} {ad : Nat → Nat} {MM : Mem} {X : CT} (hX : Cx l { frames := 6, cells := 0, slots := 0, locals := 150 } cL_joins RL 11 (some .boolean) G ad X) : ∀ (s0 : Int32) (M : Mem) {L : List (Option Value)}, lsub [none, none, none, none, none, none, none, none, none, none, none] L → KF l { frames := 6, cells := 0, slots := 0, locals := 150 } 11 G ad (EC G ad MM) (QP PostI G ad (EC G ad MM)) X (f_L_joins_100 s0 M) L 100 [.int s0] M := by
  intro s0 M L hL
  unfold f_L_joins_100
  refine KF.locals (lsub_le hL) ?_
  exact k_zret hX dL_joins_100
set_option maxHeartbeats 4000000 in
set_option maxRecDepth 100000 in
theorem w_L_joins_242 {l : Launch} {G : GL} {ad : Nat → Nat} {MM : Mem} {X : CT} (hX : Cx l { frames := 6, cells := 0, slots := 0, locals := 150 } cL_joins RL 11 (some .boolean) G ad X) : ∀ (s0 : Int32) (M : Mem) {L : List (Option Value)}, lsub [none, none, none, none, none, none, none, none, none, none, none] L → KF l { frames := 6, cells := 0, slots := 0, locals := 150 } 11 G ad (EC G ad MM) (QP PostI G ad (EC G ad MM)) X (f_L_joins_242 s0 M) L 242 [.int s0] M := by
  intro s0 M L hL
  unfold f_L_joins_242
  refine KF.locals (lsub_le hL) ?_
  exact k_zret hX dL_joins_242
set_option maxHeartbeats 4000000 in
set_option maxRecDepth 100000 in
theorem w_L_joins_237 {l : Launch} {G : GL} {ad : Nat → Nat} {MM : Mem} {X : CT} (hX : Cx l { frames := 6, cells := 0, slots := 0, locals := 150 } cL_joins RL 11 (some .boolean) G ad X) : ∀ (M : Mem) {L : List (Option Value)}, lsub [none, none, none, none, none, none, none, none, none, none, none] L → KF l { frames := 6, cells := 0, slots := 0, locals := 150 } 11 G ad (EC G ad MM) (QP PostI G ad (EC G ad MM)) X (f_L_joins_237 M) L 237 [] M := by
  intro M L hL
  unfold f_L_joins_237
  refine KF.locals (lsub_le hL) ?_
  refine k_iconst (v := (nI 1)) hX rfl dL_joins_237 ?_
  refine k_goto (tgt := 242) hX dL_joins_238 (by decide) ?_
  exact w_L_joins_242 hX (nI 1) M trivial
set_option maxHeartbeats 4000000 in
set_option maxRecDepth 100000 in
theorem w_L_joins_241 {l : Launch} {G : GL} {ad : Nat → Nat} {MM : Mem} {X : CT} (hX : Cx l { frames := 6, cells := 0, slots := 0, locals := 150 } cL_joins RL 11 (some .boolean) G ad X) : ∀ (M : Mem) {L : List (Option Value)}, lsub [none, none, none, none, none, none, none, none, none, none, none] L → KF l { frames := 6, cells := 0, slots := 0, locals := 150 } 11 G ad (EC G ad MM) (QP PostI G ad (EC G ad MM)) X (f_L_joins_241 M) L 241 [] M := by
  intro M L hL
  unfold f_L_joins_241
  refine KF.locals (lsub_le hL) ?_
  refine k_iconst (v := (nI 0)) hX rfl dL_joins_241 ?_
  exact w_L_joins_242 hX (nI 0) M trivial
set_option maxHeartbeats 4000000 in
set_option maxRecDepth 100000 in
theorem w_L_joins_174 {l : Launch} {G : GL} {ad : Nat → Nat} {MM : Mem} {X : CT} (hX : Cx l { frames := 6, cells := 0, slots := 0, locals := 150 } cL_joins RL 11 (some .boolean) G ad X) : ∀ (x9 : Int32) (M : Mem) {L : List (Option Value)}, lsub [none, none, none, none, none, none, none, none, none, some (.int x9), none] L → KF l { frames := 6, cells := 0, slots := 0, locals := 150 } 11 G ad (EC G ad MM) (QP PostI G ad (EC G ad MM)) X (f_L_joins_174 x9 M) L 174 [] M := by
  intro x9 M L hL
  unfold f_L_joins_174
  refine KF.locals (lsub_le hL) ?_
  refine k_iload hX rfl dL_joins_174 ?_
  refine k_iconst (v := (nI 1)) hX rfl dL_joins_176 ?_
  refine k_icmp_ne (tgt := 241) hX dL_joins_177 (by decide) (fun b1 => ?_) (fun b1 => ?_)
  · exact w_L_joins_241 hX M trivial
  refine k_goto (tgt := 237) hX dL_joins_180 (by decide) ?_
  exact w_L_joins_237 hX M trivial
set_option maxHeartbeats 4000000 in
set_option maxRecDepth 100000 in
theorem w_L_joins_211 {l : Launch} {G : GL} {ad : Nat → Nat} {MM : Mem} {X : CT} (hX : Cx l { frames := 6, cells := 0, slots := 0, locals := 150 } cL_joins RL 11 (some .boolean) G ad X) : ∀ (x9 : Int32) (M : Mem) {L : List (Option Value)}, lsub [none, none, none, none, none, none, none, none, none, some (.int x9), none] L → KF l { frames := 6, cells := 0, slots := 0, locals := 150 } 11 G ad (EC G ad MM) (QP PostI G ad (EC G ad MM)) X (f_L_joins_211 x9 M) L 211 [] M := by
  intro x9 M L hL
  unfold f_L_joins_211
  refine KF.locals (lsub_le hL) ?_
  refine k_iload hX rfl dL_joins_211 ?_
  refine k_if_ne (tgt := 241) hX dL_joins_213 (by decide) (fun b1 => ?_) (fun b1 => ?_)
  · exact w_L_joins_241 hX M trivial
  refine k_goto (tgt := 237) hX dL_joins_216 (by decide) ?_
  exact w_L_joins_237 hX M trivial
set_option maxHeartbeats 4000000 in
set_option maxRecDepth 100000 in
theorem w_L_joins_150 {l : Launch} {G : GL} {ad : Nat → Nat} {MM : Mem} {X : CT} (hX : Cx l { frames := 6, cells := 0, slots := 0, locals := 150 } cL_joins RL 11 (some .boolean) G ad X) : ∀ (x4 : Int32) (x6 : Int32) (x7 : Int32) (x9 : Int32) (s0 : Int32) (M : Mem) {L : List (Option Value)}, lsub [none, none, none, none, some (.int x4), none, some (.int x6), some (.int x7), none, some (.int x9), none] L → KF l { frames := 6, cells := 0, slots := 0, locals := 150 } 11 G ad (EC G ad MM) (QP PostI G ad (EC G ad MM)) X (f_L_joins_150 x4 x6 x7 x9 s0 M) L 150 [.int s0] M := by
  intro x4 x6 x7 x9 s0 M L hL
  unfold f_L_joins_150
  refine KF.locals (lsub_le hL) ?_
  refine k_istore (L' := [none, none, none, none, some (.int x4), none, some (.int x6), some (.int x7), none, some (.int x9), some (.int s0)]) hX (by decide) rfl dL_joins_150 ?_
  refine k_iload hX rfl dL_joins_152 ?_
  refine k_if_eq (tgt := 241) hX dL_joins_154 (by decide) (fun b1 => ?_) (fun b1 => ?_)
  · exact w_L_joins_241 hX M trivial
  refine k_iload hX rfl dL_joins_157 ?_
  refine k_if_eq (tgt := 201) hX dL_joins_159 (by decide) (fun b2 => ?_) (fun b2 => ?_)
  · refine k_iload hX rfl dL_joins_201 ?_
    refine k_if_eq (tgt := 211) hX dL_joins_203 (by decide) (fun b3 => ?_) (fun b3 => ?_)
    · exact w_L_joins_211 hX x9 M ⟨rfl, trivial⟩
    refine k_iload hX rfl dL_joins_206 ?_
    refine k_if_ne (tgt := 219) hX dL_joins_208 (by decide) (fun b4 => ?_) (fun b4 => ?_)
    · refine k_iload hX rfl dL_joins_219 ?_
      refine k_iconst (v := (nI 1)) hX rfl dL_joins_221 ?_
      refine k_icmp_ne (tgt := 237) hX dL_joins_222 (by decide) (fun b5 => ?_) (fun b5 => ?_)
      · exact w_L_joins_237 hX M trivial
      refine k_iload hX rfl dL_joins_225 ?_
      refine k_iconst (v := (nI 1)) hX rfl dL_joins_227 ?_
      refine k_icmp_ne (tgt := 237) hX dL_joins_228 (by decide) (fun b6 => ?_) (fun b6 => ?_)
      · exact w_L_joins_237 hX M trivial
      refine k_iload hX rfl dL_joins_231 ?_
      refine k_iconst (v := (nI 1)) hX rfl dL_joins_233 ?_
      refine k_icmp_ne (tgt := 241) hX dL_joins_234 (by decide) (fun b7 => ?_) (fun b7 => ?_)
      · exact w_L_joins_241 hX M trivial
      exact w_L_joins_237 hX M trivial
    exact w_L_joins_211 hX x9 M ⟨rfl, trivial⟩
  refine k_iload hX rfl dL_joins_162 ?_
  refine k_iconst (v := (nI 1)) hX rfl dL_joins_164 ?_
  refine k_icmp_eq (tgt := 174) hX dL_joins_165 (by decide) (fun b8 => ?_) (fun b8 => ?_)
  · exact w_L_joins_174 hX x9 M ⟨rfl, trivial⟩
  refine k_iload hX rfl dL_joins_168 ?_
  refine k_iconst (v := (nI 1)) hX rfl dL_joins_170 ?_
  refine k_icmp_ne (tgt := 183) hX dL_joins_171 (by decide) (fun b9 => ?_) (fun b9 => ?_)
  · refine k_iload hX rfl dL_joins_183 ?_
    refine k_if_ne (tgt := 237) hX dL_joins_185 (by decide) (fun b10 => ?_) (fun b10 => ?_)
    · exact w_L_joins_237 hX M trivial
    refine k_iload hX rfl dL_joins_188 ?_
    refine k_if_ne (tgt := 237) hX dL_joins_190 (by decide) (fun b11 => ?_) (fun b11 => ?_)
    · exact w_L_joins_237 hX M trivial
    refine k_iload hX rfl dL_joins_193 ?_
    refine k_if_ne (tgt := 241) hX dL_joins_195 (by decide) (fun b12 => ?_) (fun b12 => ?_)
    · exact w_L_joins_241 hX M trivial
    refine k_goto (tgt := 237) hX dL_joins_198 (by decide) ?_
    exact w_L_joins_237 hX M trivial
  exact w_L_joins_174 hX x9 M ⟨rfl, trivial⟩
set_option maxHeartbeats 4000000 in
set_option maxRecDepth 100000 in
theorem w_L_joins_149 {l : Launch} {G : GL} {ad : Nat → Nat} {MM : Mem} {X : CT} (hX : Cx l { frames := 6, cells := 0, slots := 0, locals := 150 } cL_joins RL 11 (some .boolean) G ad X) : ∀ (x4 : Int32) (x6 : Int32) (x7 : Int32) (x9 : Int32) (M : Mem) {L : List (Option Value)}, lsub [none, none, none, none, some (.int x4), none, some (.int x6), some (.int x7), none, some (.int x9), none] L → KF l { frames := 6, cells := 0, slots := 0, locals := 150 } 11 G ad (EC G ad MM) (QP PostI G ad (EC G ad MM)) X (f_L_joins_149 x4 x6 x7 x9 M) L 149 [] M := by
  intro x4 x6 x7 x9 M L hL
  unfold f_L_joins_149
  refine KF.locals (lsub_le hL) ?_
  refine k_iconst (v := (nI 0)) hX rfl dL_joins_149 ?_
  exact w_L_joins_150 hX x4 x6 x7 x9 (nI 0) M ⟨rfl, rfl, rfl, rfl, trivial⟩
set_option maxHeartbeats 4000000 in
set_option maxRecDepth 100000 in
theorem w_L_joins_26 {l : Launch} {G : GL} {ad : Nat → Nat} {MM : Mem} {X : CT} (hX : Cx l { frames := 6, cells := 0, slots := 0, locals := 150 } cL_joins RL 11 (some .boolean) G ad X) : ∀ (x2 : Int32) (x3 : Int32) (s0 : Int32) (M : Mem) {L : List (Option Value)}, lsub [some (.ref (ad 0)), none, some (.int x2), some (.int x3), none, none, none, none, none, none, none] L → KF l { frames := 6, cells := 0, slots := 0, locals := 150 } 11 G ad (EC G ad MM) (QP PostI G ad (EC G ad MM)) X (f_L_joins_26 x2 x3 s0 M) L 26 [.int s0] M := by
  intro x2 x3 s0 M L hL
  unfold f_L_joins_26
  refine KF.locals (lsub_le hL) ?_
  refine k_istore (L' := [some (.ref (ad 0)), none, some (.int x2), some (.int x3), some (.int s0), none, none, none, none, none, none]) hX (by decide) rfl dL_joins_26 ?_
  refine k_aload_n hX (i := 0) rfl rfl dL_joins_28 ?_
  refine k_iconst (v := (nI 3)) hX rfl dL_joins_29 ?_
  refine k_callVI (vs := [.int (nI 3)]) hX (fun _ h9 => m_X6_count hX.2.2.2.2.2.2.1  h9) io_0 rfl ml_L_50 ⟨Nat.le_of_ble_eq_true rfl, Nat.le_of_ble_eq_true rfl⟩ rfl rfl (Nat.le_of_ble_eq_true rfl) dL_joins_30 (fun q1 => ?_)
  refine k_istore (L' := [some (.ref (ad 0)), none, some (.int x2), some (.int x3), some (.int s0), some (.int q1.1), none, none, none, none, none]) hX (by decide) rfl dL_joins_33 ?_
  refine k_aload_n hX (i := 0) rfl rfl dL_joins_35 ?_
  refine k_iload_n hX (i := 2) rfl rfl dL_joins_36 ?_
  refine k_iconst (v := (nI 0)) hX rfl dL_joins_37 ?_
  refine k_callVI (vs := [.int x2, .int (nI 0)]) hX (fun _ h9 => m_X6_wish hX.2.2.2.2.2.2.1  h9) io_0 rfl ml_L_36 ⟨Nat.le_of_ble_eq_true rfl, Nat.le_of_ble_eq_true rfl⟩ rfl rfl (Nat.le_of_ble_eq_true rfl) dL_joins_38 (fun q2 => ?_)
  refine k_istore (L' := [some (.ref (ad 0)), none, some (.int x2), some (.int x3), some (.int s0), some (.int q1.1), some (.int q2.1), none, none, none, none]) hX (by decide) rfl dL_joins_41 ?_
  refine k_aload_n hX (i := 0) rfl rfl dL_joins_43 ?_
  refine k_iload_n hX (i := 3) rfl rfl dL_joins_44 ?_
  refine k_iconst (v := (nI 0)) hX rfl dL_joins_45 ?_
  refine k_callVI (vs := [.int x3, .int (nI 0)]) hX (fun _ h9 => m_X6_wish hX.2.2.2.2.2.2.1  h9) io_0 rfl ml_L_36 ⟨Nat.le_of_ble_eq_true rfl, Nat.le_of_ble_eq_true rfl⟩ rfl rfl (Nat.le_of_ble_eq_true rfl) dL_joins_46 (fun q3 => ?_)
  refine k_istore (L' := [some (.ref (ad 0)), none, some (.int x2), some (.int x3), some (.int s0), some (.int q1.1), some (.int q2.1), some (.int q3.1), none, none, none]) hX (by decide) rfl dL_joins_49 ?_
  refine k_aload_n hX (i := 0) rfl rfl dL_joins_51 ?_
  refine k_iload_n hX (i := 2) rfl rfl dL_joins_52 ?_
  refine k_iload_n hX (i := 3) rfl rfl dL_joins_53 ?_
  refine k_iload hX rfl dL_joins_54 ?_
  refine k_callVI (vs := [.int x2, .int x3, .int s0]) hX (fun _ h9 => m_X6_join hX.2.2.2.2.2.2.1  h9) io_0 rfl ml_L_66 ⟨Nat.le_of_ble_eq_true rfl, Nat.le_of_ble_eq_true rfl⟩ rfl rfl (Nat.le_of_ble_eq_true rfl) dL_joins_56 (fun q4 => ?_)
  refine k_istore (L' := [some (.ref (ad 0)), none, some (.int x2), some (.int x3), some (.int s0), some (.int q1.1), some (.int q2.1), some (.int q3.1), some (.int q4.1), none, none]) hX (by decide) rfl dL_joins_59 ?_
  refine k_iload hX rfl dL_joins_61 ?_
  refine k_if_lt (tgt := 71) hX dL_joins_63 (by decide) (fun b5 => ?_) (fun b5 => ?_)
  · exact w_L_joins_71 hX q4.1 q4.2 ⟨rfl, trivial⟩
  refine k_iload hX rfl dL_joins_66 ?_
  refine k_if_ge (tgt := 83) hX dL_joins_68 (by decide) (fun b6 => ?_) (fun b6 => ?_)
  · refine k_iload hX rfl dL_joins_83 ?_
    refine k_if_ge (tgt := 101) hX dL_joins_85 (by decide) (fun b7 => ?_) (fun b7 => ?_)
    · refine k_aload_n hX (i := 0) rfl rfl dL_joins_101 ?_
      refine k_iload hX rfl dL_joins_102 ?_
      refine k_iconst (v := (nI 0)) hX rfl dL_joins_104 ?_
      refine k_callVI (vs := [.int q4.1, .int (nI 0)]) hX (fun _ h9 => m_X6_wish hX.2.2.2.2.2.2.1  h9) io_0 rfl ml_L_36 ⟨Nat.le_of_ble_eq_true rfl, Nat.le_of_ble_eq_true rfl⟩ rfl rfl (Nat.le_of_ble_eq_true rfl) dL_joins_105 (fun q8 => ?_)
      refine k_istore (L' := [some (.ref (ad 0)), none, some (.int x2), some (.int x3), some (.int s0), some (.int q1.1), some (.int q2.1), some (.int q3.1), some (.int q4.1), some (.int q8.1), none]) hX (by decide) rfl dL_joins_108 ?_
      refine k_iload hX rfl dL_joins_110 ?_
      refine k_iload hX rfl dL_joins_112 ?_
      refine k_icmp_ne (tgt := 149) hX dL_joins_114 (by decide) (fun b9 => ?_) (fun b9 => ?_)
      · exact w_L_joins_149 hX s0 q2.1 q3.1 q8.1 q8.2 ⟨rfl, rfl, rfl, rfl, trivial⟩
      refine k_aload_n hX (i := 0) rfl rfl dL_joins_117 ?_
      refine k_iload hX rfl dL_joins_118 ?_
      refine k_bipush (v := (nI 8)) hX rfl dL_joins_120 ?_
      refine k_callVI (vs := [.int q4.1, .int (nI 8)]) hX (fun _ h9 => m_X6_wish hX.2.2.2.2.2.2.1  h9) io_0 rfl ml_L_36 ⟨Nat.le_of_ble_eq_true rfl, Nat.le_of_ble_eq_true rfl⟩ rfl rfl (Nat.le_of_ble_eq_true rfl) dL_joins_122 (fun q10 => ?_)
      refine k_aload_n hX (i := 0) rfl rfl dL_joins_125 ?_
      refine k_iconst (v := (nI 0)) hX rfl dL_joins_126 ?_
      refine k_callVI (vs := [.int (nI 0)]) hX (fun _ h9 => m_X6_count hX.2.2.2.2.2.2.1  h9) io_0 rfl ml_L_50 ⟨Nat.le_of_ble_eq_true rfl, Nat.le_of_ble_eq_true rfl⟩ rfl rfl (Nat.le_of_ble_eq_true rfl) dL_joins_127 (fun q11 => ?_)
      refine k_icmp_ne (tgt := 149) hX dL_joins_130 (by decide) (fun b12 => ?_) (fun b12 => ?_)
      · exact w_L_joins_149 hX s0 q2.1 q3.1 q8.1 q11.2 ⟨rfl, rfl, rfl, rfl, trivial⟩
      refine k_aload_n hX (i := 0) rfl rfl dL_joins_133 ?_
      refine k_iload hX rfl dL_joins_134 ?_
      refine k_iconst (v := (nI 4)) hX rfl dL_joins_136 ?_
      refine k_callVI (vs := [.int q4.1, .int (nI 4)]) hX (fun _ h9 => m_X6_wish hX.2.2.2.2.2.2.1  h9) io_0 rfl ml_L_36 ⟨Nat.le_of_ble_eq_true rfl, Nat.le_of_ble_eq_true rfl⟩ rfl rfl (Nat.le_of_ble_eq_true rfl) dL_joins_137 (fun q13 => ?_)
      refine k_bipush (v := (-5)) hX rfl dL_joins_140 ?_
      refine k_icmp_ne (tgt := 149) hX dL_joins_142 (by decide) (fun b14 => ?_) (fun b14 => ?_)
      · exact w_L_joins_149 hX s0 q2.1 q3.1 q8.1 q13.2 ⟨rfl, rfl, rfl, rfl, trivial⟩
      refine k_iconst (v := (nI 1)) hX rfl dL_joins_145 ?_
      refine k_goto (tgt := 150) hX dL_joins_146 (by decide) ?_
      exact w_L_joins_150 hX s0 q2.1 q3.1 q8.1 (nI 1) q13.2 ⟨rfl, rfl, rfl, rfl, trivial⟩
    refine k_iload hX rfl dL_joins_88 ?_
    refine k_bipush (v := (-3)) hX rfl dL_joins_90 ?_
    refine k_icmp_ne (tgt := 99) hX dL_joins_92 (by decide) (fun b15 => ?_) (fun b15 => ?_)
    · refine k_iconst (v := (nI 0)) hX rfl dL_joins_99 ?_
      exact w_L_joins_100 hX (nI 0) q4.2 trivial
    refine k_iconst (v := (nI 1)) hX rfl dL_joins_95 ?_
    refine k_goto (tgt := 100) hX dL_joins_96 (by decide) ?_
    exact w_L_joins_100 hX (nI 1) q4.2 trivial
  exact w_L_joins_71 hX q4.1 q4.2 ⟨rfl, trivial⟩
set_option maxHeartbeats 4000000 in
set_option maxRecDepth 100000 in
theorem w_L_joins {l : Launch} {G : GL} {ad : Nat → Nat} {MM : Mem} {X : CT} (hX : Cx l { frames := 6, cells := 0, slots := 0, locals := 150 } cL_joins RL 11 (some .boolean) G ad X) {p2 : Int32} {M : Mem} : KF l { frames := 6, cells := 0, slots := 0, locals := 150 } 11 G ad (EC G ad MM) (QP PostI G ad (EC G ad MM)) X (f_L_joins p2 M) [some (.ref (ad 0)), some (.int p2), none, none, none, none, none, none, none, none, none] 0 [] M := by
  unfold f_L_joins
  refine k_iload_n hX (i := 1) rfl rfl dL_joins_0 ?_
  refine k_iconst (v := (nI 2)) hX rfl dL_joins_1 ?_
  refine k_ishr hX dL_joins_2 ?_
  refine k_bipush (v := (nI 8)) hX rfl dL_joins_3 ?_
  refine k_irem hX (by decide) dL_joins_5 ?_
  refine k_istore_n (L' := [some (.ref (ad 0)), some (.int p2), some (.int ((p2 >>> ((nI 2) &&& nI 31)) - (p2 >>> ((nI 2) &&& nI 31)) / (nI 8) * (nI 8))), none, none, none, none, none, none, none, none]) hX (i := 2) rfl (by decide) rfl dL_joins_6 ?_
  refine k_iload_n hX (i := 1) rfl rfl dL_joins_7 ?_
  refine k_iconst (v := (nI 5)) hX rfl dL_joins_8 ?_
  refine k_ishr hX dL_joins_9 ?_
  refine k_bipush (v := (nI 8)) hX rfl dL_joins_10 ?_
  refine k_irem hX (by decide) dL_joins_12 ?_
  refine k_istore_n (L' := [some (.ref (ad 0)), some (.int p2), some (.int ((p2 >>> ((nI 2) &&& nI 31)) - (p2 >>> ((nI 2) &&& nI 31)) / (nI 8) * (nI 8))), some (.int ((p2 >>> ((nI 5) &&& nI 31)) - (p2 >>> ((nI 5) &&& nI 31)) / (nI 8) * (nI 8))), none, none, none, none, none, none, none]) hX (i := 3) rfl (by decide) rfl dL_joins_13 ?_
  refine k_iload_n hX (i := 1) rfl rfl dL_joins_14 ?_
  refine k_iconst (v := (nI 2)) hX rfl dL_joins_15 ?_
  refine k_irem hX (by decide) dL_joins_16 ?_
  refine k_iconst (v := (nI 1)) hX rfl dL_joins_17 ?_
  refine k_icmp_ne (tgt := 25) hX dL_joins_18 (by decide) (fun b1 => ?_) (fun b1 => ?_)
  · refine k_iconst (v := (nI 0)) hX rfl dL_joins_25 ?_
    exact w_L_joins_26 hX ((p2 >>> ((nI 2) &&& nI 31)) - (p2 >>> ((nI 2) &&& nI 31)) / (nI 8) * (nI 8)) ((p2 >>> ((nI 5) &&& nI 31)) - (p2 >>> ((nI 5) &&& nI 31)) / (nI 8) * (nI 8)) (nI 0) M ⟨rfl, rfl, rfl, trivial⟩
  refine k_iconst (v := (nI 1)) hX rfl dL_joins_21 ?_
  refine k_goto (tgt := 26) hX dL_joins_22 (by decide) ?_
  exact w_L_joins_26 hX ((p2 >>> ((nI 2) &&& nI 31)) - (p2 >>> ((nI 2) &&& nI 31)) / (nI 8) * (nI 8)) ((p2 >>> ((nI 5) &&& nI 31)) - (p2 >>> ((nI 5) &&& nI 31)) / (nI 8) * (nI 8)) (nI 1) M ⟨rfl, rfl, rfl, trivial⟩
set_option maxRecDepth 100000 in
theorem m_L_joins {l : Launch} {G : GL} {ad : Nat → Nat} {MM : Mem} (hAd : AdOK G ad) {p2 : Int32} {M : Mem} {r : Rv} (h : f_L_joins p2 M = some r) : Ct PostI l G ad (EC G ad MM) yL_joins cL_joins 11 (some .boolean) 6 150 [.ref (ad 0), .int p2] M r := ct_of' hAd (by decide +kernel) (List.forall_mem_cons.mpr ⟨rfl, (List.forall_mem_cons.mpr ⟨rfl, (fun _ h => absurd h List.not_mem_nil)⟩)⟩) (Nat.le_of_ble_eq_true rfl) (L := [some (.ref (ad 0)), some (.int p2), none, none, none, none, none, none, none, none, none]) rfl (fun _ hX => w_L_joins hX) h
set_option maxHeartbeats 4000000 in
set_option maxRecDepth 100000 in
theorem w_L_law_98 {l : Launch} {G : GL} {ad : Nat → Nat} {MM : Mem} {X : CT} (hX : Cx l room_1 cL_law RL 7 (some .boolean) G ad X) (hZ : LawZ G X) {k43 : Scr → Int32 → Int32 → Mem → Option Rv} (hk43 : ∀ (x0 : Scr) (x2 : Int32) (x3 : Int32) (hx0 : x0 = G.2.2.2.2.2.2) (M : Mem) {L : List (Option Value)}, lsub [some (.ref G.2.2.2.2.2.1), some (.ref (ad 0)), some (.int x2), some (.int x3), none, none, none] L → KF l room_1 7 G ad (EC G ad MM) QLw X (k43 x0 x2 x3 M) L 43 [] M) : ∀ (x0 : Scr) (x3 : Int32) (s0 : Int32) (hx0 : x0 = G.2.2.2.2.2.2) (M : Mem) {L : List (Option Value)}, lsub [some (.ref G.2.2.2.2.2.1), some (.ref (ad 0)), none, some (.int x3), none, none, none] L → KF l room_1 7 G ad (EC G ad MM) QLw X (f_L_law_98 k43 x0 x3 s0 M) L 98 [.int s0] M := by
  intro x0 x3 s0 hx0 M L hL
  unfold f_L_law_98
  refine KF.locals (lsub_le hL) ?_
  refine k_istore_n (L' := [some (.ref G.2.2.2.2.2.1), some (.ref (ad 0)), some (.int s0), some (.int x3), none, none, none]) hX (i := 2) rfl (by decide) rfl dL_law_98 ?_
  refine k_iinc (v := x3 + nI 1) (L' := [some (.ref G.2.2.2.2.2.1), some (.ref (ad 0)), some (.int s0), some (.int (x3 + nI 1)), none, none, none]) hX (i := 3) rfl rfl (by decide) rfl dL_law_99 ?_
  refine k_goto (tgt := 43) hX dL_law_102 (by decide) ?_
  exact hk43 x0 s0 (x3 + nI 1) hx0 M ⟨rfl, rfl, rfl, rfl, trivial⟩
set_option maxHeartbeats 4000000 in
set_option maxRecDepth 100000 in
theorem w_L_law_97 {l : Launch} {G : GL} {ad : Nat → Nat} {MM : Mem} {X : CT} (hX : Cx l room_1 cL_law RL 7 (some .boolean) G ad X) (hZ : LawZ G X) {k43 : Scr → Int32 → Int32 → Mem → Option Rv} (hk43 : ∀ (x0 : Scr) (x2 : Int32) (x3 : Int32) (hx0 : x0 = G.2.2.2.2.2.2) (M : Mem) {L : List (Option Value)}, lsub [some (.ref G.2.2.2.2.2.1), some (.ref (ad 0)), some (.int x2), some (.int x3), none, none, none] L → KF l room_1 7 G ad (EC G ad MM) QLw X (k43 x0 x2 x3 M) L 43 [] M) : ∀ (x0 : Scr) (x3 : Int32) (hx0 : x0 = G.2.2.2.2.2.2) (M : Mem) {L : List (Option Value)}, lsub [some (.ref G.2.2.2.2.2.1), some (.ref (ad 0)), none, some (.int x3), none, none, none] L → KF l room_1 7 G ad (EC G ad MM) QLw X (f_L_law_97 k43 x0 x3 M) L 97 [] M := by
  intro x0 x3 hx0 M L hL
  unfold f_L_law_97
  refine KF.locals (lsub_le hL) ?_
  refine k_iconst (v := (nI 0)) hX rfl dL_law_97 ?_
  exact w_L_law_98 hX hZ hk43 x0 x3 (nI 0) hx0 M ⟨rfl, rfl, rfl, trivial⟩
set_option maxHeartbeats 4000000 in
set_option maxRecDepth 100000 in
theorem w_L_law_265 {l : Launch} {G : GL} {ad : Nat → Nat} {MM : Mem} {X : CT} (hX : Cx l room_1 cL_law RL 7 (some .boolean) G ad X) (hZ : LawZ G X) {k124 : Scr → Int32 → Int32 → Mem → Option Rv} (hk124 : ∀ (x0 : Scr) (x2 : Int32) (x3 : Int32) (hx0 : x0 = G.2.2.2.2.2.2) (M : Mem) {L : List (Option Value)}, lsub [some (.ref G.2.2.2.2.2.1), some (.ref (ad 0)), some (.int x2), some (.int x3), none, none, none] L → KF l room_1 7 G ad (EC G ad MM) QLw X (k124 x0 x2 x3 M) L 124 [] M) : ∀ (x0 : Scr) (x3 : Int32) (s0 : Int32) (hx0 : x0 = G.2.2.2.2.2.2) (M : Mem) {L : List (Option Value)}, lsub [some (.ref G.2.2.2.2.2.1), some (.ref (ad 0)), none, some (.int x3), none, none, none] L → KF l room_1 7 G ad (EC G ad MM) QLw X (f_L_law_265 k124 x0 x3 s0 M) L 265 [.int s0] M := by
  intro x0 x3 s0 hx0 M L hL
  unfold f_L_law_265
  refine KF.locals (lsub_le hL) ?_
  refine k_istore_n (L' := [some (.ref G.2.2.2.2.2.1), some (.ref (ad 0)), some (.int s0), some (.int x3), none, none, none]) hX (i := 2) rfl (by decide) rfl dL_law_265 ?_
  refine k_iinc (v := x3 + nI 1) (L' := [some (.ref G.2.2.2.2.2.1), some (.ref (ad 0)), some (.int s0), some (.int (x3 + nI 1)), none, none, none]) hX (i := 3) rfl rfl (by decide) rfl dL_law_266 ?_
  refine k_goto (tgt := 124) hX dL_law_269 (by decide) ?_
  exact hk124 x0 s0 (x3 + nI 1) hx0 M ⟨rfl, rfl, rfl, rfl, trivial⟩
set_option maxHeartbeats 4000000 in
set_option maxRecDepth 100000 in
theorem w_L_law_264 {l : Launch} {G : GL} {ad : Nat → Nat} {MM : Mem} {X : CT} (hX : Cx l room_1 cL_law RL 7 (some .boolean) G ad X) (hZ : LawZ G X) {k124 : Scr → Int32 → Int32 → Mem → Option Rv} (hk124 : ∀ (x0 : Scr) (x2 : Int32) (x3 : Int32) (hx0 : x0 = G.2.2.2.2.2.2) (M : Mem) {L : List (Option Value)}, lsub [some (.ref G.2.2.2.2.2.1), some (.ref (ad 0)), some (.int x2), some (.int x3), none, none, none] L → KF l room_1 7 G ad (EC G ad MM) QLw X (k124 x0 x2 x3 M) L 124 [] M) : ∀ (x0 : Scr) (x3 : Int32) (hx0 : x0 = G.2.2.2.2.2.2) (M : Mem) {L : List (Option Value)}, lsub [some (.ref G.2.2.2.2.2.1), some (.ref (ad 0)), none, some (.int x3), none, none, none] L → KF l room_1 7 G ad (EC G ad MM) QLw X (f_L_law_264 k124 x0 x3 M) L 264 [] M := by
  intro x0 x3 hx0 M L hL
  unfold f_L_law_264
  refine KF.locals (lsub_le hL) ?_
  refine k_iconst (v := (nI 0)) hX rfl dL_law_264 ?_
  exact w_L_law_265 hX hZ hk124 x0 x3 (nI 0) hx0 M ⟨rfl, rfl, rfl, trivial⟩
set_option maxHeartbeats 4000000 in
set_option maxRecDepth 100000 in
theorem w_L_law_248 {l : Launch} {G : GL} {ad : Nat → Nat} {MM : Mem} {X : CT} (hX : Cx l room_1 cL_law RL 7 (some .boolean) G ad X) (hZ : LawZ G X) {k124 : Scr → Int32 → Int32 → Mem → Option Rv} (hk124 : ∀ (x0 : Scr) (x2 : Int32) (x3 : Int32) (hx0 : x0 = G.2.2.2.2.2.2) (M : Mem) {L : List (Option Value)}, lsub [some (.ref G.2.2.2.2.2.1), some (.ref (ad 0)), some (.int x2), some (.int x3), none, none, none] L → KF l room_1 7 G ad (EC G ad MM) QLw X (k124 x0 x2 x3 M) L 124 [] M) : ∀ (x0 : Scr) (x3 : Int32) (s0 : Int32) (hx0 : x0 = G.2.2.2.2.2.2) (M : Mem) {L : List (Option Value)}, lsub [some (.ref G.2.2.2.2.2.1), some (.ref (ad 0)), none, some (.int x3), none, none, none] L → KF l room_1 7 G ad (EC G ad MM) QLw X (f_L_law_248 k124 x0 x3 s0 M) L 248 [.int s0] M := by
  intro x0 x3 s0 hx0 M L hL
  unfold f_L_law_248
  refine KF.locals (lsub_le hL) ?_
  refine k_istore_n (L' := [some (.ref G.2.2.2.2.2.1), some (.ref (ad 0)), some (.int s0), some (.int x3), none, none, none]) hX (i := 2) rfl (by decide) rfl dL_law_248 ?_
  refine k_iload_n hX (i := 2) rfl rfl dL_law_249 ?_
  refine k_if_eq (tgt := 264) hX dL_law_250 (by decide) (fun b1 => ?_) (fun b1 => ?_)
  · exact w_L_law_264 hX hZ hk124 x0 x3 hx0 M ⟨rfl, rfl, rfl, trivial⟩
  refine k_aload_n hX (i := 1) rfl rfl dL_law_253 ?_
  refine k_callSI (vs := [.ref (ad 0)]) hX (fun _ h9 => m_L_isAll hX.2.2.2.2.2.2.1  h9) ml_L_87 ⟨Nat.le_of_ble_eq_true rfl, Nat.le_of_ble_eq_true rfl⟩ rfl rfl (Nat.le_of_ble_eq_true rfl) dL_law_254 (fun q2 => ?_)
  refine k_if_eq (tgt := 264) hX dL_law_257 (by decide) (fun b3 => ?_) (fun b3 => ?_)
  · exact w_L_law_264 hX hZ hk124 x0 x3 hx0 q2.2 ⟨rfl, rfl, rfl, trivial⟩
  refine k_iconst (v := (nI 1)) hX rfl dL_law_260 ?_
  refine k_goto (tgt := 265) hX dL_law_261 (by decide) ?_
  exact w_L_law_265 hX hZ hk124 x0 x3 (nI 1) hx0 q2.2 ⟨rfl, rfl, rfl, trivial⟩
set_option maxHeartbeats 4000000 in
set_option maxRecDepth 100000 in
theorem w_L_law_199 {l : Launch} {G : GL} {ad : Nat → Nat} {MM : Mem} {X : CT} (hX : Cx l room_1 cL_law RL 7 (some .boolean) G ad X) (hZ : LawZ G X) {k124 : Scr → Int32 → Int32 → Mem → Option Rv} (hk124 : ∀ (x0 : Scr) (x2 : Int32) (x3 : Int32) (hx0 : x0 = G.2.2.2.2.2.2) (M : Mem) {L : List (Option Value)}, lsub [some (.ref G.2.2.2.2.2.1), some (.ref (ad 0)), some (.int x2), some (.int x3), none, none, none] L → KF l room_1 7 G ad (EC G ad MM) QLw X (k124 x0 x2 x3 M) L 124 [] M) : ∀ (x0 : Scr) (x3 : Int32) (hx0 : x0 = G.2.2.2.2.2.2) (M : Mem) {L : List (Option Value)}, lsub [some (.ref G.2.2.2.2.2.1), some (.ref (ad 0)), none, some (.int x3), none, none, none] L → KF l room_1 7 G ad (EC G ad MM) QLw X (f_L_law_199 k124 x0 x3 M) L 199 [] M := by
  intro x0 x3 hx0 M L hL
  unfold f_L_law_199
  refine KF.locals (lsub_le hL) ?_
  refine k_iconst (v := (nI 1)) hX rfl dL_law_199 ?_
  refine k_goto (tgt := 248) hX dL_law_200 (by decide) ?_
  exact w_L_law_248 hX hZ hk124 x0 x3 (nI 1) hx0 M ⟨rfl, rfl, rfl, trivial⟩
set_option maxHeartbeats 4000000 in
set_option maxRecDepth 100000 in
theorem w_L_law_328 {l : Launch} {G : GL} {ad : Nat → Nat} {MM : Mem} {X : CT} (hX : Cx l room_1 cL_law RL 7 (some .boolean) G ad X) (hZ : LawZ G X) {k291 : Int32 → Int32 → Int32 → Int32 → Int32 → Mem → Option Rv} (hk291 : ∀ (x2 : Int32) (x3 : Int32) (x4 : Int32) (x5 : Int32) (x6 : Int32) (M : Mem) {L : List (Option Value)}, lsub [none, some (.ref (ad 0)), some (.int x2), some (.int x3), some (.int x4), some (.int x5), some (.int x6)] L → KF l room_1 7 G ad (EC G ad MM) QLw X (k291 x2 x3 x4 x5 x6 M) L 291 [] M) : ∀ (x2 : Int32) (x3 : Int32) (x4 : Int32) (x6 : Int32) (s0 : Int32) (s1 : Int32) (M : Mem) {L : List (Option Value)}, lsub [none, some (.ref (ad 0)), some (.int x2), some (.int x3), some (.int x4), none, some (.int x6)] L → KF l room_1 7 G ad (EC G ad MM) QLw X (f_L_law_328 k291 x2 x3 x4 x6 s0 s1 M) L 328 [.int s0, .int s1] M := by
  intro x2 x3 x4 x6 s0 s1 M L hL
  unfold f_L_law_328
  refine KF.locals (lsub_le hL) ?_
  refine k_iadd hX dL_law_328 ?_
  refine k_istore (L' := [none, some (.ref (ad 0)), some (.int x2), some (.int x3), some (.int x4), some (.int (s1 + s0)), some (.int x6)]) hX (by decide) rfl dL_law_329 ?_
  refine k_iinc (v := x6 + nI 1) (L' := [none, some (.ref (ad 0)), some (.int x2), some (.int x3), some (.int x4), some (.int (s1 + s0)), some (.int (x6 + nI 1))]) hX (i := 6) rfl rfl (by decide) rfl dL_law_331 ?_
  refine k_goto (tgt := 291) hX dL_law_334 (by decide) ?_
  exact hk291 x2 x3 x4 (s1 + s0) (x6 + nI 1) M ⟨rfl, rfl, rfl, rfl, rfl, rfl, trivial⟩
set_option maxHeartbeats 4000000 in
set_option maxRecDepth 100000 in
theorem w_L_law_327 {l : Launch} {G : GL} {ad : Nat → Nat} {MM : Mem} {X : CT} (hX : Cx l room_1 cL_law RL 7 (some .boolean) G ad X) (hZ : LawZ G X) {k291 : Int32 → Int32 → Int32 → Int32 → Int32 → Mem → Option Rv} (hk291 : ∀ (x2 : Int32) (x3 : Int32) (x4 : Int32) (x5 : Int32) (x6 : Int32) (M : Mem) {L : List (Option Value)}, lsub [none, some (.ref (ad 0)), some (.int x2), some (.int x3), some (.int x4), some (.int x5), some (.int x6)] L → KF l room_1 7 G ad (EC G ad MM) QLw X (k291 x2 x3 x4 x5 x6 M) L 291 [] M) : ∀ (x2 : Int32) (x3 : Int32) (x4 : Int32) (x6 : Int32) (s0 : Int32) (M : Mem) {L : List (Option Value)}, lsub [none, some (.ref (ad 0)), some (.int x2), some (.int x3), some (.int x4), none, some (.int x6)] L → KF l room_1 7 G ad (EC G ad MM) QLw X (f_L_law_327 k291 x2 x3 x4 x6 s0 M) L 327 [.int s0] M := by
  intro x2 x3 x4 x6 s0 M L hL
  unfold f_L_law_327
  refine KF.locals (lsub_le hL) ?_
  refine k_iconst (v := (nI 0)) hX rfl dL_law_327 ?_
  exact w_L_law_328 hX hZ hk291 x2 x3 x4 x6 (nI 0) s0 M ⟨rfl, rfl, rfl, rfl, rfl, trivial⟩
set_option maxHeartbeats 4000000 in
set_option maxRecDepth 100000 in
theorem w_L_law_465 {l : Launch} {G : GL} {ad : Nat → Nat} {MM : Mem} {X : CT} (hX : Cx l room_1 cL_law RL 7 (some .boolean) G ad X) (hZ : LawZ G X) : ∀ (s0 : Int32) (M : Mem) {L : List (Option Value)}, lsub [none, none, none, none, none, none, none] L → KF l room_1 7 G ad (EC G ad MM) QLw X (f_L_law_465 s0 M) L 465 [.int s0] M := by
  intro s0 M L hL
  unfold f_L_law_465
  refine KF.locals (lsub_le hL) ?_
  exact k_lret hX hZ dL_law_465
set_option maxHeartbeats 4000000 in
set_option maxRecDepth 100000 in
theorem w_L_law_464 {l : Launch} {G : GL} {ad : Nat → Nat} {MM : Mem} {X : CT} (hX : Cx l room_1 cL_law RL 7 (some .boolean) G ad X) (hZ : LawZ G X) : ∀ (M : Mem) {L : List (Option Value)}, lsub [none, none, none, none, none, none, none] L → KF l room_1 7 G ad (EC G ad MM) QLw X (f_L_law_464 M) L 464 [] M := by
  intro M L hL
  unfold f_L_law_464
  refine KF.locals (lsub_le hL) ?_
  refine k_iconst (v := (nI 0)) hX rfl dL_law_464 ?_
  exact w_L_law_465 hX hZ (nI 0) M trivial
set_option maxHeartbeats 4000000 in
set_option maxRecDepth 100000 in
theorem w_L_law_406 {l : Launch} {G : GL} {ad : Nat → Nat} {MM : Mem} {X : CT} (hX : Cx l room_1 cL_law RL 7 (some .boolean) G ad X) (hZ : LawZ G X) : ∀ (x3 : Int32) (x4 : Int32) (s0 : Int32) (M : Mem) {L : List (Option Value)}, lsub [none, some (.ref (ad 0)), none, some (.int x3), some (.int x4), none, none] L → KF l room_1 7 G ad (EC G ad MM) QLw X (f_L_law_406 x3 x4 s0 M) L 406 [.int s0] M := by
  intro x3 x4 s0 M L hL
  unfold f_L_law_406
  refine KF.locals (lsub_le hL) ?_
  refine k_istore_n (L' := [none, some (.ref (ad 0)), some (.int s0), some (.int x3), some (.int x4), none, none]) hX (i := 2) rfl (by decide) rfl dL_law_406 ?_
  refine k_iload_n hX (i := 2) rfl rfl dL_law_407 ?_
  refine k_if_eq (tgt := 464) hX dL_law_408 (by decide) (fun b1 => ?_) (fun b1 => ?_)
  · exact w_L_law_464 hX hZ M trivial
  refine k_aload_n hX (i := 1) rfl rfl dL_law_411 ?_
  refine k_callVI (vs := []) hX (fun _ h9 => m_X6_restore hX.2.2.2.2.2.2.1  h9) io_0 rfl ml_L_74 ⟨Nat.le_of_ble_eq_true rfl, Nat.le_of_ble_eq_true rfl⟩ rfl rfl (Nat.le_of_ble_eq_true rfl) dL_law_412 (fun q2 => ?_)
  refine k_iload_n hX (i := 3) rfl rfl dL_law_415 ?_
  refine k_icmp_ne (tgt := 464) hX dL_law_416 (by decide) (fun b3 => ?_) (fun b3 => ?_)
  · exact w_L_law_464 hX hZ q2.2 trivial
  refine k_aload_n hX (i := 1) rfl rfl dL_law_419 ?_
  refine k_iconst (v := (nI 4)) hX rfl dL_law_420 ?_
  refine k_callVI (vs := [.int (nI 4)]) hX (fun _ h9 => m_X6_count hX.2.2.2.2.2.2.1  h9) io_0 rfl ml_L_50 ⟨Nat.le_of_ble_eq_true rfl, Nat.le_of_ble_eq_true rfl⟩ rfl rfl (Nat.le_of_ble_eq_true rfl) dL_law_421 (fun q4 => ?_)
  refine k_iload hX rfl dL_law_424 ?_
  refine k_icmp_ne (tgt := 464) hX dL_law_426 (by decide) (fun b5 => ?_) (fun b5 => ?_)
  · exact w_L_law_464 hX hZ q4.2 trivial
  refine k_aload_n hX (i := 1) rfl rfl dL_law_429 ?_
  refine k_iconst (v := (nI 1)) hX rfl dL_law_430 ?_
  refine k_callVI (vs := [.int (nI 1)]) hX (fun _ h9 => m_X6_count hX.2.2.2.2.2.2.1  h9) io_0 rfl ml_L_50 ⟨Nat.le_of_ble_eq_true rfl, Nat.le_of_ble_eq_true rfl⟩ rfl rfl (Nat.le_of_ble_eq_true rfl) dL_law_431 (fun q6 => ?_)
  refine k_if_ne (tgt := 464) hX dL_law_434 (by decide) (fun b7 => ?_) (fun b7 => ?_)
  · exact w_L_law_464 hX hZ q6.2 trivial
  refine k_aload_n hX (i := 1) rfl rfl dL_law_437 ?_
  refine k_callVI (vs := []) hX (fun _ h9 => m_X6_undo hX.2.2.2.2.2.2.1  h9) io_0 rfl ml_L_71 ⟨Nat.le_of_ble_eq_true rfl, Nat.le_of_ble_eq_true rfl⟩ rfl rfl (Nat.le_of_ble_eq_true rfl) dL_law_438 (fun q8 => ?_)
  refine k_if_lt (tgt := 464) hX dL_law_441 (by decide) (fun b9 => ?_) (fun b9 => ?_)
  · exact w_L_law_464 hX hZ q8.2 trivial
  refine k_aload_n hX (i := 1) rfl rfl dL_law_444 ?_
  refine k_iconst (v := (nI 1)) hX rfl dL_law_445 ?_
  refine k_callVI (vs := [.int (nI 1)]) hX (fun _ h9 => m_X6_count hX.2.2.2.2.2.2.1  h9) io_0 rfl ml_L_50 ⟨Nat.le_of_ble_eq_true rfl, Nat.le_of_ble_eq_true rfl⟩ rfl rfl (Nat.le_of_ble_eq_true rfl) dL_law_446 (fun q10 => ?_)
  refine k_iconst (v := (nI 1)) hX rfl dL_law_449 ?_
  refine k_icmp_ne (tgt := 464) hX dL_law_450 (by decide) (fun b11 => ?_) (fun b11 => ?_)
  · exact w_L_law_464 hX hZ q10.2 trivial
  refine k_aload_n hX (i := 1) rfl rfl dL_law_453 ?_
  refine k_callSI (vs := [.ref (ad 0)]) hX (fun _ h9 => m_L_isAll hX.2.2.2.2.2.2.1  h9) ml_L_87 ⟨Nat.le_of_ble_eq_true rfl, Nat.le_of_ble_eq_true rfl⟩ rfl rfl (Nat.le_of_ble_eq_true rfl) dL_law_454 (fun q12 => ?_)
  refine k_if_eq (tgt := 464) hX dL_law_457 (by decide) (fun b13 => ?_) (fun b13 => ?_)
  · exact w_L_law_464 hX hZ q12.2 trivial
  refine k_iconst (v := (nI 1)) hX rfl dL_law_460 ?_
  refine k_goto (tgt := 465) hX dL_law_461 (by decide) ?_
  exact w_L_law_465 hX hZ (nI 1) q12.2 trivial
set_option maxHeartbeats 4000000 in
set_option maxRecDepth 100000 in
theorem w_L_law_405 {l : Launch} {G : GL} {ad : Nat → Nat} {MM : Mem} {X : CT} (hX : Cx l room_1 cL_law RL 7 (some .boolean) G ad X) (hZ : LawZ G X) : ∀ (x3 : Int32) (x4 : Int32) (M : Mem) {L : List (Option Value)}, lsub [none, some (.ref (ad 0)), none, some (.int x3), some (.int x4), none, none] L → KF l room_1 7 G ad (EC G ad MM) QLw X (f_L_law_405 x3 x4 M) L 405 [] M := by
  intro x3 x4 M L hL
  unfold f_L_law_405
  refine KF.locals (lsub_le hL) ?_
  refine k_iconst (v := (nI 0)) hX rfl dL_law_405 ?_
  exact w_L_law_406 hX hZ x3 x4 (nI 0) M ⟨rfl, rfl, rfl, trivial⟩
set_option maxHeartbeats 4000000 in
set_option maxRecDepth 100000 in
theorem w_L_law_291 {l : Launch} {G : GL} {ad : Nat → Nat} {MM : Mem} {X : CT} (hX : Cx l room_1 cL_law RL 7 (some .boolean) G ad X) (hZ : LawZ G X) : ∀ (n : Nat), ∀ (x2 : Int32) (x3 : Int32) (x4 : Int32) (x5 : Int32) (x6 : Int32) (M : Mem) {L : List (Option Value)}, lsub [none, some (.ref (ad 0)), some (.int x2), some (.int x3), some (.int x4), some (.int x5), some (.int x6)] L → KF l room_1 7 G ad (EC G ad MM) QLw X (f_L_law_291 n x2 x3 x4 x5 x6 M) L 291 [] M := by
  intro n
  induction n with
  | zero =>
    intro x2 x3 x4 x5 x6 M L hL
    exact KF.none'
  | succ n ih =>
    intro x2 x3 x4 x5 x6 M L hL
    rw [f_L_law_291]
    refine KF.locals (lsub_le hL) ?_
    refine k_iload hX rfl dL_law_291 ?_
    refine k_bipush (v := (nI 8)) hX rfl dL_law_293 ?_
    refine k_icmp_ge (tgt := 337) hX dL_law_295 (by decide) (fun b1 => ?_) (fun b1 => ?_)
    · refine k_iload_n hX (i := 2) rfl rfl dL_law_337 ?_
      refine k_if_eq (tgt := 405) hX dL_law_338 (by decide) (fun b2 => ?_) (fun b2 => ?_)
      · exact w_L_law_405 hX hZ x3 x4 M ⟨rfl, rfl, rfl, trivial⟩
      refine k_aload_n hX (i := 1) rfl rfl dL_law_341 ?_
      refine k_callVI (vs := []) hX (fun _ h9 => m_X6_keep hX.2.2.2.2.2.2.1  h9) io_0 rfl ml_L_103 ⟨Nat.le_of_ble_eq_true rfl, Nat.le_of_ble_eq_true rfl⟩ rfl rfl (Nat.le_of_ble_eq_true rfl) dL_law_342 (fun q3 => ?_)
      refine k_iload_n hX (i := 3) rfl rfl dL_law_345 ?_
      refine k_icmp_ne (tgt := 405) hX dL_law_346 (by decide) (fun b4 => ?_) (fun b4 => ?_)
      · exact w_L_law_405 hX hZ x3 x4 q3.2 ⟨rfl, rfl, rfl, trivial⟩
      refine k_aload_n hX (i := 1) rfl rfl dL_law_349 ?_
      refine k_callVI (vs := []) hX (fun _ h9 => m_X6_end hX.2.2.2.2.2.2.1  h9) io_0 rfl ml_L_106 ⟨Nat.le_of_ble_eq_true rfl, Nat.le_of_ble_eq_true rfl⟩ rfl rfl (Nat.le_of_ble_eq_true rfl) dL_law_350 (fun q5 => ?_)
      refine k_iload hX rfl dL_law_353 ?_
      refine k_icmp_ne (tgt := 405) hX dL_law_355 (by decide) (fun b6 => ?_) (fun b6 => ?_)
      · exact w_L_law_405 hX hZ x3 x4 q5.2 ⟨rfl, rfl, rfl, trivial⟩
      refine k_aload_n hX (i := 1) rfl rfl dL_law_358 ?_
      refine k_iconst (v := (nI 4)) hX rfl dL_law_359 ?_
      refine k_callVI (vs := [.int (nI 4)]) hX (fun _ h9 => m_X6_count hX.2.2.2.2.2.2.1  h9) io_0 rfl ml_L_50 ⟨Nat.le_of_ble_eq_true rfl, Nat.le_of_ble_eq_true rfl⟩ rfl rfl (Nat.le_of_ble_eq_true rfl) dL_law_360 (fun q7 => ?_)
      refine k_if_ne (tgt := 405) hX dL_law_363 (by decide) (fun b8 => ?_) (fun b8 => ?_)
      · exact w_L_law_405 hX hZ x3 x4 q7.2 ⟨rfl, rfl, rfl, trivial⟩
      refine k_aload_n hX (i := 1) rfl rfl dL_law_366 ?_
      refine k_callSI (vs := [.ref (ad 0)]) hX (fun _ h9 => m_L_isAll hX.2.2.2.2.2.2.1  h9) ml_L_87 ⟨Nat.le_of_ble_eq_true rfl, Nat.le_of_ble_eq_true rfl⟩ rfl rfl (Nat.le_of_ble_eq_true rfl) dL_law_367 (fun q9 => ?_)
      refine k_if_eq (tgt := 405) hX dL_law_370 (by decide) (fun b10 => ?_) (fun b10 => ?_)
      · exact w_L_law_405 hX hZ x3 x4 q9.2 ⟨rfl, rfl, rfl, trivial⟩
      refine k_aload_n hX (i := 1) rfl rfl dL_law_373 ?_
      refine k_iconst (v := (nI 0)) hX rfl dL_law_374 ?_
      refine k_callVI (vs := [.int (nI 0)]) hX (fun _ h9 => m_X6_event hX.2.2.2.2.2.2.1  h9) io_0 rfl ml_L_60 ⟨Nat.le_of_ble_eq_true rfl, Nat.le_of_ble_eq_true rfl⟩ rfl rfl (Nat.le_of_ble_eq_true rfl) dL_law_375 (fun q11 => ?_)
      refine k_bipush (v := (-4)) hX rfl dL_law_378 ?_
      refine k_icmp_ne (tgt := 405) hX dL_law_380 (by decide) (fun b12 => ?_) (fun b12 => ?_)
      · exact w_L_law_405 hX hZ x3 x4 q11.2 ⟨rfl, rfl, rfl, trivial⟩
      refine k_aload_n hX (i := 1) rfl rfl dL_law_383 ?_
      refine k_callVI (vs := []) hX (fun _ h9 => m_X6_end hX.2.2.2.2.2.2.1  h9) io_0 rfl ml_L_106 ⟨Nat.le_of_ble_eq_true rfl, Nat.le_of_ble_eq_true rfl⟩ rfl rfl (Nat.le_of_ble_eq_true rfl) dL_law_384 (fun q13 => ?_)
      refine k_bipush (v := (-4)) hX rfl dL_law_387 ?_
      refine k_icmp_ne (tgt := 405) hX dL_law_389 (by decide) (fun b14 => ?_) (fun b14 => ?_)
      · exact w_L_law_405 hX hZ x3 x4 q13.2 ⟨rfl, rfl, rfl, trivial⟩
      refine k_aload_n hX (i := 1) rfl rfl dL_law_392 ?_
      refine k_callVI (vs := []) hX (fun _ h9 => m_X6_addWish hX.2.2.2.2.2.2.1  h9) io_0 rfl ml_L_77 ⟨Nat.le_of_ble_eq_true rfl, Nat.le_of_ble_eq_true rfl⟩ rfl rfl (Nat.le_of_ble_eq_true rfl) dL_law_393 (fun q15 => ?_)
      refine k_bipush (v := (-4)) hX rfl dL_law_396 ?_
      refine k_icmp_ne (tgt := 405) hX dL_law_398 (by decide) (fun b16 => ?_) (fun b16 => ?_)
      · exact w_L_law_405 hX hZ x3 x4 q15.2 ⟨rfl, rfl, rfl, trivial⟩
      refine k_iconst (v := (nI 1)) hX rfl dL_law_401 ?_
      refine k_goto (tgt := 406) hX dL_law_402 (by decide) ?_
      exact w_L_law_406 hX hZ x3 x4 (nI 1) q15.2 ⟨rfl, rfl, rfl, trivial⟩
    refine k_iload hX rfl dL_law_298 ?_
    refine k_aload_n hX (i := 1) rfl rfl dL_law_300 ?_
    refine k_iload hX rfl dL_law_301 ?_
    refine k_iconst (v := (nI 0)) hX rfl dL_law_303 ?_
    refine k_callVI (vs := [.int x6, .int (nI 0)]) hX (fun _ h9 => m_X6_wish hX.2.2.2.2.2.2.1  h9) io_0 rfl ml_L_36 ⟨Nat.le_of_ble_eq_true rfl, Nat.le_of_ble_eq_true rfl⟩ rfl rfl (Nat.le_of_ble_eq_true rfl) dL_law_304 (fun q17 => ?_)
    refine k_iconst (v := (nI 2)) hX rfl dL_law_307 ?_
    refine k_icmp_ne (tgt := 327) hX dL_law_308 (by decide) (fun b18 => ?_) (fun b18 => ?_)
    · exact w_L_law_327 hX hZ ih x2 x3 x4 x6 x5 q17.2 ⟨rfl, rfl, rfl, rfl, rfl, trivial⟩
    refine k_aload_n hX (i := 1) rfl rfl dL_law_311 ?_
    refine k_iload hX rfl dL_law_312 ?_
    refine k_bipush (v := (nI 6)) hX rfl dL_law_314 ?_
    refine k_callVI (vs := [.int x6, .int (nI 6)]) hX (fun _ h9 => m_X6_wish hX.2.2.2.2.2.2.1  h9) io_0 rfl ml_L_36 ⟨Nat.le_of_ble_eq_true rfl, Nat.le_of_ble_eq_true rfl⟩ rfl rfl (Nat.le_of_ble_eq_true rfl) dL_law_316 (fun q19 => ?_)
    refine k_iconst (v := (nI 1)) hX rfl dL_law_319 ?_
    refine k_icmp_ne (tgt := 327) hX dL_law_320 (by decide) (fun b20 => ?_) (fun b20 => ?_)
    · exact w_L_law_327 hX hZ ih x2 x3 x4 x6 x5 q19.2 ⟨rfl, rfl, rfl, rfl, rfl, trivial⟩
    refine k_iconst (v := (nI 1)) hX rfl dL_law_323 ?_
    refine k_goto (tgt := 328) hX dL_law_324 (by decide) ?_
    exact w_L_law_328 hX hZ ih x2 x3 x4 x6 (nI 1) x5 q19.2 ⟨rfl, rfl, rfl, rfl, rfl, trivial⟩
set_option maxHeartbeats 4000000 in
set_option maxRecDepth 100000 in
theorem w_L_law_272 {l : Launch} {G : GL} {ad : Nat → Nat} {MM : Mem} {X : CT} (hX : Cx l room_1 cL_law RL 7 (some .boolean) G ad X) (hZ : LawZ G X) : ∀ (x2 : Int32) (M : Mem) {L : List (Option Value)}, lsub [none, some (.ref (ad 0)), some (.int x2), none, none, none, none] L → KF l room_1 7 G ad (EC G ad MM) QLw X (f_L_law_272 x2 M) L 272 [] M := by
  intro x2 M L hL
  unfold f_L_law_272
  refine KF.locals (lsub_le hL) ?_
  refine k_aload_n hX (i := 1) rfl rfl dL_law_272 ?_
  refine k_iconst (v := (nI 0)) hX rfl dL_law_273 ?_
  refine k_callVI (vs := [.int (nI 0)]) hX (fun _ h9 => m_X6_count hX.2.2.2.2.2.2.1  h9) io_0 rfl ml_L_50 ⟨Nat.le_of_ble_eq_true rfl, Nat.le_of_ble_eq_true rfl⟩ rfl rfl (Nat.le_of_ble_eq_true rfl) dL_law_274 (fun q1 => ?_)
  refine k_istore_n (L' := [none, some (.ref (ad 0)), some (.int x2), some (.int q1.1), none, none, none]) hX (i := 3) rfl (by decide) rfl dL_law_277 ?_
  refine k_aload_n hX (i := 1) rfl rfl dL_law_278 ?_
  refine k_iconst (v := (nI 4)) hX rfl dL_law_279 ?_
  refine k_callVI (vs := [.int (nI 4)]) hX (fun _ h9 => m_X6_count hX.2.2.2.2.2.2.1  h9) io_0 rfl ml_L_50 ⟨Nat.le_of_ble_eq_true rfl, Nat.le_of_ble_eq_true rfl⟩ rfl rfl (Nat.le_of_ble_eq_true rfl) dL_law_280 (fun q2 => ?_)
  refine k_istore (L' := [none, some (.ref (ad 0)), some (.int x2), some (.int q1.1), some (.int q2.1), none, none]) hX (by decide) rfl dL_law_283 ?_
  refine k_iconst (v := (nI 0)) hX rfl dL_law_285 ?_
  refine k_istore (L' := [none, some (.ref (ad 0)), some (.int x2), some (.int q1.1), some (.int q2.1), some (.int (nI 0)), none]) hX (by decide) rfl dL_law_286 ?_
  refine k_iconst (v := (nI 0)) hX rfl dL_law_288 ?_
  refine k_istore (L' := [none, some (.ref (ad 0)), some (.int x2), some (.int q1.1), some (.int q2.1), some (.int (nI 0)), some (.int (nI 0))]) hX (by decide) rfl dL_law_289 ?_
  exact w_L_law_291 hX hZ fuelN x2 q1.1 q2.1 (nI 0) (nI 0) q2.2 ⟨rfl, rfl, rfl, rfl, rfl, rfl, trivial⟩
set_option maxHeartbeats 4000000 in
set_option maxRecDepth 100000 in
theorem w_L_law_124 {l : Launch} {G : GL} {ad : Nat → Nat} {MM : Mem} {X : CT} (hX : Cx l room_1 cL_law RL 7 (some .boolean) G ad X) (hZ : LawZ G X) : ∀ (n : Nat), ∀ (x0 : Scr) (x2 : Int32) (x3 : Int32) (hx0 : x0 = G.2.2.2.2.2.2) (M : Mem) {L : List (Option Value)}, lsub [some (.ref G.2.2.2.2.2.1), some (.ref (ad 0)), some (.int x2), some (.int x3), none, none, none] L → KF l room_1 7 G ad (EC G ad MM) QLw X (f_L_law_124 n x0 x2 x3 M) L 124 [] M := by
  intro n
  induction n with
  | zero =>
    intro x0 x2 x3 hx0 M L hL
    exact KF.none'
  | succ n ih =>
    intro x0 x2 x3 hx0 M L hL
    rw [f_L_law_124]
    refine KF.locals (lsub_le hL) ?_
    refine k_iload_n hX (i := 3) rfl rfl dL_law_124 ?_
    refine k_bipush (v := (nI 9)) hX rfl dL_law_125 ?_
    refine k_icmp_ge (tgt := 272) hX dL_law_127 (by decide) (fun b1 => ?_) (fun b1 => ?_)
    · exact w_L_law_272 hX hZ x2 M ⟨rfl, rfl, trivial⟩
    refine k_iload_n hX (i := 2) rfl rfl dL_law_130 ?_
    refine k_if_eq (tgt := 272) hX dL_law_131 (by decide) (fun b2 => ?_) (fun b2 => ?_)
    · exact w_L_law_272 hX hZ x2 M ⟨rfl, rfl, trivial⟩
    refine k_aload_n hX (i := 0) rfl rfl dL_law_134 ?_
    refine k_iconst (v := (nI 4)) hX rfl dL_law_135 ?_
    refine k_iload_n hX (i := 3) rfl rfl dL_law_136 ?_
    refine k_iadd hX dL_law_137 ?_
    refine k_callSI (vs := [.ref G.2.2.2.2.2.1, .int ((nI 4) + x3)]) hX (fun _ h9 => m_L_cell hX.2.2.2.2.2.2.1 hx0 h9) ml_L_80 ⟨Nat.le_of_ble_eq_true rfl, Nat.le_of_ble_eq_true rfl⟩ rfl rfl (Nat.le_of_ble_eq_true rfl) dL_law_138 (fun q3 => ?_)
    refine k_istore (L' := [some (.ref G.2.2.2.2.2.1), some (.ref (ad 0)), some (.int x2), some (.int x3), some (.int q3.1), none, none]) hX (by decide) rfl dL_law_141 ?_
    refine k_iload hX rfl dL_law_143 ?_
    refine k_bipush (v := (nI 8)) hX rfl dL_law_145 ?_
    refine k_ishr hX dL_law_147 ?_
    refine k_iconst (v := (nI 4)) hX rfl dL_law_148 ?_
    refine k_irem hX (by decide) dL_law_149 ?_
    refine k_istore (L' := [some (.ref G.2.2.2.2.2.1), some (.ref (ad 0)), some (.int x2), some (.int x3), some (.int q3.1), some (.int ((q3.1 >>> ((nI 8) &&& nI 31)) - (q3.1 >>> ((nI 8) &&& nI 31)) / (nI 4) * (nI 4))), none]) hX (by decide) rfl dL_law_150 ?_
    refine k_iload hX rfl dL_law_152 ?_
    refine k_bipush (v := (nI 7)) hX rfl dL_law_154 ?_
    refine k_irem hX (by decide) dL_law_156 ?_
    refine k_if_ne (tgt := 171) hX dL_law_157 (by decide) (fun b4 => ?_) (fun b4 => ?_)
    · refine k_iload hX rfl dL_law_171 ?_
      refine k_bipush (v := (nI 7)) hX rfl dL_law_173 ?_
      refine k_irem hX (by decide) dL_law_175 ?_
      refine k_iconst (v := (nI 1)) hX rfl dL_law_176 ?_
      refine k_icmp_ne (tgt := 207) hX dL_law_177 (by decide) (fun b5 => ?_) (fun b5 => ?_)
      · refine k_iload hX rfl dL_law_207 ?_
        refine k_bipush (v := (nI 23)) hX rfl dL_law_209 ?_
        refine k_irem hX (by decide) dL_law_211 ?_
        refine k_iconst (v := (nI 2)) hX rfl dL_law_212 ?_
        refine k_icmp_ne (tgt := 235) hX dL_law_213 (by decide) (fun b6 => ?_) (fun b6 => ?_)
        · refine k_aload_n hX (i := 1) rfl rfl dL_law_235 ?_
          refine k_iload hX rfl dL_law_236 ?_
          refine k_iconst (v := (nI 3)) hX rfl dL_law_238 ?_
          refine k_ishr hX dL_law_239 ?_
          refine k_bipush (v := (nI 64)) hX rfl dL_law_240 ?_
          refine k_irem hX (by decide) dL_law_242 ?_
          refine k_iload hX rfl dL_law_243 ?_
          refine k_callSI (vs := [.ref (ad 0), .int ((q3.1 >>> ((nI 3) &&& nI 31)) - (q3.1 >>> ((nI 3) &&& nI 31)) / (nI 64) * (nI 64)), .int ((q3.1 >>> ((nI 8) &&& nI 31)) - (q3.1 >>> ((nI 8) &&& nI 31)) / (nI 4) * (nI 4))]) hX (fun _ h9 => m_L_happens hX.2.2.2.2.2.2.1  h9) ml_L_100 ⟨Nat.le_of_ble_eq_true rfl, Nat.le_of_ble_eq_true rfl⟩ rfl rfl (Nat.le_of_ble_eq_true rfl) dL_law_245 (fun q7 => ?_)
          exact w_L_law_248 hX hZ ih x0 x3 q7.1 hx0 q7.2 ⟨rfl, rfl, rfl, trivial⟩
        refine k_aload_n hX (i := 1) rfl rfl dL_law_216 ?_
        refine k_iload hX rfl dL_law_217 ?_
        refine k_callVI (vs := [.int ((q3.1 >>> ((nI 8) &&& nI 31)) - (q3.1 >>> ((nI 8) &&& nI 31)) / (nI 4) * (nI 4))]) hX (fun _ h9 => m_X6_removeWish hX.2.2.2.2.2.2.1  h9) io_0 rfl ml_L_97 ⟨Nat.le_of_ble_eq_true rfl, Nat.le_of_ble_eq_true rfl⟩ rfl rfl (Nat.le_of_ble_eq_true rfl) dL_law_219 (fun q8 => ?_)
        refine k_bipush (v := (-2)) hX rfl dL_law_222 ?_
        refine k_icmp_eq (tgt := 231) hX dL_law_224 (by decide) (fun b9 => ?_) (fun b9 => ?_)
        · refine k_iconst (v := (nI 0)) hX rfl dL_law_231 ?_
          refine k_goto (tgt := 248) hX dL_law_232 (by decide) ?_
          exact w_L_law_248 hX hZ ih x0 x3 (nI 0) hx0 q8.2 ⟨rfl, rfl, rfl, trivial⟩
        refine k_iconst (v := (nI 1)) hX rfl dL_law_227 ?_
        refine k_goto (tgt := 248) hX dL_law_228 (by decide) ?_
        exact w_L_law_248 hX hZ ih x0 x3 (nI 1) hx0 q8.2 ⟨rfl, rfl, rfl, trivial⟩
      refine k_aload_n hX (i := 1) rfl rfl dL_law_180 ?_
      refine k_iload hX rfl dL_law_181 ?_
      refine k_callSI (vs := [.ref (ad 0), .int ((q3.1 >>> ((nI 8) &&& nI 31)) - (q3.1 >>> ((nI 8) &&& nI 31)) / (nI 4) * (nI 4))]) hX (fun _ h9 => m_L_isBorne hX.2.2.2.2.2.2.1  h9) ml_L_94 ⟨Nat.le_of_ble_eq_true rfl, Nat.le_of_ble_eq_true rfl⟩ rfl rfl (Nat.le_of_ble_eq_true rfl) dL_law_183 (fun q10 => ?_)
      refine k_if_ne (tgt := 199) hX dL_law_186 (by decide) (fun b11 => ?_) (fun b11 => ?_)
      · exact w_L_law_199 hX hZ ih x0 x3 hx0 q10.2 ⟨rfl, rfl, rfl, trivial⟩
      refine k_aload_n hX (i := 1) rfl rfl dL_law_189 ?_
      refine k_iload hX rfl dL_law_190 ?_
      refine k_iconst (v := (nI 0)) hX rfl dL_law_192 ?_
      refine k_callVI (vs := [.int ((q3.1 >>> ((nI 8) &&& nI 31)) - (q3.1 >>> ((nI 8) &&& nI 31)) / (nI 4) * (nI 4)), .int (nI 0)]) hX (fun _ h9 => m_X6_wish hX.2.2.2.2.2.2.1  h9) io_0 rfl ml_L_36 ⟨Nat.le_of_ble_eq_true rfl, Nat.le_of_ble_eq_true rfl⟩ rfl rfl (Nat.le_of_ble_eq_true rfl) dL_law_193 (fun q12 => ?_)
      refine k_if_ge (tgt := 203) hX dL_law_196 (by decide) (fun b13 => ?_) (fun b13 => ?_)
      · refine k_iconst (v := (nI 0)) hX rfl dL_law_203 ?_
        refine k_goto (tgt := 248) hX dL_law_204 (by decide) ?_
        exact w_L_law_248 hX hZ ih x0 x3 (nI 0) hx0 q12.2 ⟨rfl, rfl, rfl, trivial⟩
      exact w_L_law_199 hX hZ ih x0 x3 hx0 q12.2 ⟨rfl, rfl, rfl, trivial⟩
    refine k_aload_n hX (i := 1) rfl rfl dL_law_160 ?_
    refine k_iload hX rfl dL_law_161 ?_
    refine k_iconst (v := (nI 3)) hX rfl dL_law_163 ?_
    refine k_ishr hX dL_law_164 ?_
    refine k_callSI (vs := [.ref (ad 0), .int (q3.1 >>> ((nI 3) &&& nI 31))]) hX (fun _ h9 => m_L_joins hX.2.2.2.2.2.2.1  h9) ml_L_91 ⟨Nat.le_of_ble_eq_true rfl, Nat.le_of_ble_eq_true rfl⟩ rfl rfl (Nat.le_of_ble_eq_true rfl) dL_law_165 (fun q14 => ?_)
    refine k_goto (tgt := 248) hX dL_law_168 (by decide) ?_
    exact w_L_law_248 hX hZ ih x0 x3 q14.1 hx0 q14.2 ⟨rfl, rfl, rfl, trivial⟩
set_option maxHeartbeats 4000000 in
set_option maxRecDepth 100000 in
theorem w_L_law_121 {l : Launch} {G : GL} {ad : Nat → Nat} {MM : Mem} {X : CT} (hX : Cx l room_1 cL_law RL 7 (some .boolean) G ad X) (hZ : LawZ G X) : ∀ (x0 : Scr) (s0 : Int32) (hx0 : x0 = G.2.2.2.2.2.2) (M : Mem) {L : List (Option Value)}, lsub [some (.ref G.2.2.2.2.2.1), some (.ref (ad 0)), none, none, none, none, none] L → KF l room_1 7 G ad (EC G ad MM) QLw X (f_L_law_121 x0 s0 M) L 121 [.int s0] M := by
  intro x0 s0 hx0 M L hL
  unfold f_L_law_121
  refine KF.locals (lsub_le hL) ?_
  refine k_istore_n (L' := [some (.ref G.2.2.2.2.2.1), some (.ref (ad 0)), some (.int s0), none, none, none, none]) hX (i := 2) rfl (by decide) rfl dL_law_121 ?_
  refine k_iconst (v := (nI 0)) hX rfl dL_law_122 ?_
  refine k_istore_n (L' := [some (.ref G.2.2.2.2.2.1), some (.ref (ad 0)), some (.int s0), some (.int (nI 0)), none, none, none]) hX (i := 3) rfl (by decide) rfl dL_law_123 ?_
  exact w_L_law_124 hX hZ fuelN x0 s0 (nI 0) hx0 M ⟨rfl, rfl, rfl, rfl, trivial⟩
set_option maxHeartbeats 4000000 in
set_option maxRecDepth 100000 in
theorem w_L_law_120 {l : Launch} {G : GL} {ad : Nat → Nat} {MM : Mem} {X : CT} (hX : Cx l room_1 cL_law RL 7 (some .boolean) G ad X) (hZ : LawZ G X) : ∀ (x0 : Scr) (hx0 : x0 = G.2.2.2.2.2.2) (M : Mem) {L : List (Option Value)}, lsub [some (.ref G.2.2.2.2.2.1), some (.ref (ad 0)), none, none, none, none, none] L → KF l room_1 7 G ad (EC G ad MM) QLw X (f_L_law_120 x0 M) L 120 [] M := by
  intro x0 hx0 M L hL
  unfold f_L_law_120
  refine KF.locals (lsub_le hL) ?_
  refine k_iconst (v := (nI 0)) hX rfl dL_law_120 ?_
  exact w_L_law_121 hX hZ x0 (nI 0) hx0 M ⟨rfl, rfl, trivial⟩
set_option maxHeartbeats 4000000 in
set_option maxRecDepth 100000 in
theorem w_L_law_105 {l : Launch} {G : GL} {ad : Nat → Nat} {MM : Mem} {X : CT} (hX : Cx l room_1 cL_law RL 7 (some .boolean) G ad X) (hZ : LawZ G X) : ∀ (x0 : Scr) (x2 : Int32) (hx0 : x0 = G.2.2.2.2.2.2) (M : Mem) {L : List (Option Value)}, lsub [some (.ref G.2.2.2.2.2.1), some (.ref (ad 0)), some (.int x2), none, none, none, none] L → KF l room_1 7 G ad (EC G ad MM) QLw X (f_L_law_105 x0 x2 M) L 105 [] M := by
  intro x0 x2 hx0 M L hL
  unfold f_L_law_105
  refine KF.locals (lsub_le hL) ?_
  refine k_iload_n hX (i := 2) rfl rfl dL_law_105 ?_
  refine k_if_eq (tgt := 120) hX dL_law_106 (by decide) (fun b1 => ?_) (fun b1 => ?_)
  · exact w_L_law_120 hX hZ x0 hx0 M ⟨rfl, rfl, trivial⟩
  refine k_aload_n hX (i := 1) rfl rfl dL_law_109 ?_
  refine k_callSI (vs := [.ref (ad 0)]) hX (fun _ h9 => m_L_isAll hX.2.2.2.2.2.2.1  h9) ml_L_87 ⟨Nat.le_of_ble_eq_true rfl, Nat.le_of_ble_eq_true rfl⟩ rfl rfl (Nat.le_of_ble_eq_true rfl) dL_law_110 (fun q2 => ?_)
  refine k_if_eq (tgt := 120) hX dL_law_113 (by decide) (fun b3 => ?_) (fun b3 => ?_)
  · exact w_L_law_120 hX hZ x0 hx0 q2.2 ⟨rfl, rfl, trivial⟩
  refine k_iconst (v := (nI 1)) hX rfl dL_law_116 ?_
  refine k_goto (tgt := 121) hX dL_law_117 (by decide) ?_
  exact w_L_law_121 hX hZ x0 (nI 1) hx0 q2.2 ⟨rfl, rfl, trivial⟩
set_option maxHeartbeats 4000000 in
set_option maxRecDepth 100000 in
theorem w_L_law_43 {l : Launch} {G : GL} {ad : Nat → Nat} {MM : Mem} {X : CT} (hX : Cx l room_1 cL_law RL 7 (some .boolean) G ad X) (hZ : LawZ G X) : ∀ (n : Nat), ∀ (x0 : Scr) (x2 : Int32) (x3 : Int32) (hx0 : x0 = G.2.2.2.2.2.2) (M : Mem) {L : List (Option Value)}, lsub [some (.ref G.2.2.2.2.2.1), some (.ref (ad 0)), some (.int x2), some (.int x3), none, none, none] L → KF l room_1 7 G ad (EC G ad MM) QLw X (f_L_law_43 n x0 x2 x3 M) L 43 [] M := by
  intro n
  induction n with
  | zero =>
    intro x0 x2 x3 hx0 M L hL
    exact KF.none'
  | succ n ih =>
    intro x0 x2 x3 hx0 M L hL
    rw [f_L_law_43]
    refine KF.locals (lsub_le hL) ?_
    refine k_iload_n hX (i := 3) rfl rfl dL_law_43 ?_
    refine k_iconst (v := (nI 4)) hX rfl dL_law_44 ?_
    refine k_icmp_ge (tgt := 105) hX dL_law_45 (by decide) (fun b1 => ?_) (fun b1 => ?_)
    · exact w_L_law_105 hX hZ x0 x2 hx0 M ⟨rfl, rfl, rfl, trivial⟩
    refine k_iload_n hX (i := 2) rfl rfl dL_law_48 ?_
    refine k_if_eq (tgt := 105) hX dL_law_49 (by decide) (fun b2 => ?_) (fun b2 => ?_)
    · exact w_L_law_105 hX hZ x0 x2 hx0 M ⟨rfl, rfl, rfl, trivial⟩
    refine k_aload_n hX (i := 1) rfl rfl dL_law_52 ?_
    refine k_aload_n hX (i := 0) rfl rfl dL_law_53 ?_
    refine k_iload_n hX (i := 3) rfl rfl dL_law_54 ?_
    refine k_callSI (vs := [.ref G.2.2.2.2.2.1, .int x3]) hX (fun _ h9 => m_L_cell hX.2.2.2.2.2.2.1 hx0 h9) ml_L_80 ⟨Nat.le_of_ble_eq_true rfl, Nat.le_of_ble_eq_true rfl⟩ rfl rfl (Nat.le_of_ble_eq_true rfl) dL_law_55 (fun q3 => ?_)
    refine k_callSI (vs := [.ref (ad 0), .int q3.1]) hX (fun _ h9 => m_L_types hX.2.2.2.2.2.2.1  h9) ml_L_84 ⟨Nat.le_of_ble_eq_true rfl, Nat.le_of_ble_eq_true rfl⟩ rfl rfl (Nat.le_of_ble_eq_true rfl) dL_law_58 (fun q4 => ?_)
    refine k_if_eq (tgt := 97) hX dL_law_61 (by decide) (fun b5 => ?_) (fun b5 => ?_)
    · exact w_L_law_97 hX hZ ih x0 x3 hx0 q4.2 ⟨rfl, rfl, rfl, trivial⟩
    refine k_aload_n hX (i := 1) rfl rfl dL_law_64 ?_
    refine k_callVI (vs := []) hX (fun _ h9 => m_X6_addWish hX.2.2.2.2.2.2.1  h9) io_0 rfl ml_L_77 ⟨Nat.le_of_ble_eq_true rfl, Nat.le_of_ble_eq_true rfl⟩ rfl rfl (Nat.le_of_ble_eq_true rfl) dL_law_65 (fun q6 => ?_)
    refine k_iload_n hX (i := 3) rfl rfl dL_law_68 ?_
    refine k_icmp_ne (tgt := 97) hX dL_law_69 (by decide) (fun b7 => ?_) (fun b7 => ?_)
    · exact w_L_law_97 hX hZ ih x0 x3 hx0 q6.2 ⟨rfl, rfl, rfl, trivial⟩
    refine k_aload_n hX (i := 1) rfl rfl dL_law_72 ?_
    refine k_iload_n hX (i := 3) rfl rfl dL_law_73 ?_
    refine k_iconst (v := (nI 4)) hX rfl dL_law_74 ?_
    refine k_callVI (vs := [.int x3, .int (nI 4)]) hX (fun _ h9 => m_X6_wish hX.2.2.2.2.2.2.1  h9) io_0 rfl ml_L_36 ⟨Nat.le_of_ble_eq_true rfl, Nat.le_of_ble_eq_true rfl⟩ rfl rfl (Nat.le_of_ble_eq_true rfl) dL_law_75 (fun q8 => ?_)
    refine k_bipush (v := (-5)) hX rfl dL_law_78 ?_
    refine k_icmp_ne (tgt := 97) hX dL_law_80 (by decide) (fun b9 => ?_) (fun b9 => ?_)
    · exact w_L_law_97 hX hZ ih x0 x3 hx0 q8.2 ⟨rfl, rfl, rfl, trivial⟩
    refine k_aload_n hX (i := 1) rfl rfl dL_law_83 ?_
    refine k_iload_n hX (i := 3) rfl rfl dL_law_84 ?_
    refine k_bipush (v := (nI 8)) hX rfl dL_law_85 ?_
    refine k_callVI (vs := [.int x3, .int (nI 8)]) hX (fun _ h9 => m_X6_wish hX.2.2.2.2.2.2.1  h9) io_0 rfl ml_L_36 ⟨Nat.le_of_ble_eq_true rfl, Nat.le_of_ble_eq_true rfl⟩ rfl rfl (Nat.le_of_ble_eq_true rfl) dL_law_87 (fun q10 => ?_)
    refine k_if_ne (tgt := 97) hX dL_law_90 (by decide) (fun b11 => ?_) (fun b11 => ?_)
    · exact w_L_law_97 hX hZ ih x0 x3 hx0 q10.2 ⟨rfl, rfl, rfl, trivial⟩
    refine k_iconst (v := (nI 1)) hX rfl dL_law_93 ?_
    refine k_goto (tgt := 98) hX dL_law_94 (by decide) ?_
    exact w_L_law_98 hX hZ ih x0 x3 (nI 1) hx0 q10.2 ⟨rfl, rfl, rfl, trivial⟩
set_option maxHeartbeats 4000000 in
set_option maxRecDepth 100000 in
theorem w_L_law_40 {l : Launch} {G : GL} {ad : Nat → Nat} {MM : Mem} {X : CT} (hX : Cx l room_1 cL_law RL 7 (some .boolean) G ad X) (hZ : LawZ G X) : ∀ (x0 : Scr) (s0 : Int32) (hx0 : x0 = G.2.2.2.2.2.2) (M : Mem) {L : List (Option Value)}, lsub [some (.ref G.2.2.2.2.2.1), some (.ref (ad 0)), none, none, none, none, none] L → KF l room_1 7 G ad (EC G ad MM) QLw X (f_L_law_40 x0 s0 M) L 40 [.int s0] M := by
  intro x0 s0 hx0 M L hL
  unfold f_L_law_40
  refine KF.locals (lsub_le hL) ?_
  refine k_istore_n (L' := [some (.ref G.2.2.2.2.2.1), some (.ref (ad 0)), some (.int s0), none, none, none, none]) hX (i := 2) rfl (by decide) rfl dL_law_40 ?_
  refine k_iconst (v := (nI 0)) hX rfl dL_law_41 ?_
  refine k_istore_n (L' := [some (.ref G.2.2.2.2.2.1), some (.ref (ad 0)), some (.int s0), some (.int (nI 0)), none, none, none]) hX (i := 3) rfl (by decide) rfl dL_law_42 ?_
  exact w_L_law_43 hX hZ fuelN x0 s0 (nI 0) hx0 M ⟨rfl, rfl, rfl, rfl, trivial⟩
set_option maxHeartbeats 4000000 in
set_option maxRecDepth 100000 in
theorem w_L_law_39 {l : Launch} {G : GL} {ad : Nat → Nat} {MM : Mem} {X : CT} (hX : Cx l room_1 cL_law RL 7 (some .boolean) G ad X) (hZ : LawZ G X) : ∀ (x0 : Scr) (hx0 : x0 = G.2.2.2.2.2.2) (M : Mem) {L : List (Option Value)}, lsub [some (.ref G.2.2.2.2.2.1), some (.ref (ad 0)), none, none, none, none, none] L → KF l room_1 7 G ad (EC G ad MM) QLw X (f_L_law_39 x0 M) L 39 [] M := by
  intro x0 hx0 M L hL
  unfold f_L_law_39
  refine KF.locals (lsub_le hL) ?_
  refine k_iconst (v := (nI 0)) hX rfl dL_law_39 ?_
  exact w_L_law_40 hX hZ x0 (nI 0) hx0 M ⟨rfl, rfl, trivial⟩
set_option maxHeartbeats 4000000 in
set_option maxRecDepth 100000 in
theorem w_L_law {l : Launch} {G : GL} {ad : Nat → Nat} {MM : Mem} {X : CT} (hX : Cx l room_1 cL_law RL 7 (some .boolean) G ad X) (hZ : LawZ G X) {p1 : Scr} (hp1 : p1 = G.2.2.2.2.2.2) {M : Mem} : KF l room_1 7 G ad (EC G ad MM) QLw X (f_L_law p1 M) [some (.ref G.2.2.2.2.2.1), some (.ref (ad 0)), none, none, none, none, none] 8 [] M := by
  unfold f_L_law
  refine k_aload_n hX (i := 1) rfl rfl dL_law_8 ?_
  refine k_callVI (vs := []) hX (fun _ h9 => m_X6_undo hX.2.2.2.2.2.2.1  h9) io_0 rfl ml_L_71 ⟨Nat.le_of_ble_eq_true rfl, Nat.le_of_ble_eq_true rfl⟩ rfl rfl (Nat.le_of_ble_eq_true rfl) dL_law_9 (fun q1 => ?_)
  refine k_bipush (v := (-5)) hX rfl dL_law_12 ?_
  refine k_icmp_ne (tgt := 39) hX dL_law_14 (by decide) (fun b2 => ?_) (fun b2 => ?_)
  · exact w_L_law_39 hX hZ p1 hp1 q1.2 ⟨rfl, rfl, trivial⟩
  refine k_aload_n hX (i := 1) rfl rfl dL_law_17 ?_
  refine k_callVI (vs := []) hX (fun _ h9 => m_X6_restore hX.2.2.2.2.2.2.1  h9) io_0 rfl ml_L_74 ⟨Nat.le_of_ble_eq_true rfl, Nat.le_of_ble_eq_true rfl⟩ rfl rfl (Nat.le_of_ble_eq_true rfl) dL_law_18 (fun q3 => ?_)
  refine k_bipush (v := (-5)) hX rfl dL_law_21 ?_
  refine k_icmp_ne (tgt := 39) hX dL_law_23 (by decide) (fun b4 => ?_) (fun b4 => ?_)
  · exact w_L_law_39 hX hZ p1 hp1 q3.2 ⟨rfl, rfl, trivial⟩
  refine k_aload_n hX (i := 1) rfl rfl dL_law_26 ?_
  refine k_callVI (vs := []) hX (fun _ h9 => m_X6_addWish hX.2.2.2.2.2.2.1  h9) io_0 rfl ml_L_77 ⟨Nat.le_of_ble_eq_true rfl, Nat.le_of_ble_eq_true rfl⟩ rfl rfl (Nat.le_of_ble_eq_true rfl) dL_law_27 (fun q5 => ?_)
  refine k_bipush (v := (-100)) hX rfl dL_law_30 ?_
  refine k_icmp_ne (tgt := 39) hX dL_law_32 (by decide) (fun b6 => ?_) (fun b6 => ?_)
  · exact w_L_law_39 hX hZ p1 hp1 q5.2 ⟨rfl, rfl, trivial⟩
  refine k_iconst (v := (nI 1)) hX rfl dL_law_35 ?_
  refine k_goto (tgt := 40) hX dL_law_36 (by decide) ?_
  exact w_L_law_40 hX hZ p1 (nI 1) hp1 q5.2 ⟨rfl, rfl, trivial⟩
