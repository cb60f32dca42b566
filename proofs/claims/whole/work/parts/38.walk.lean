set_option maxHeartbeats 4000000 in
set_option maxRecDepth 100000 in
theorem w_X7_isOpen_22 {l : Launch} {G : GL} {ad : Nat → Nat} {MM : Mem} {X : CT} (hX : Cx l { frames := 2, cells := 0, slots := 0, locals := 43 } cX7_isOpen RX7 2 (some .boolean) G ad X) : ∀ (s0 : Int32) (M : Mem) {L : List (Option Value)}, lsub [none, none] L → KF l { frames := 2, cells := 0, slots := 0, locals := 43 } 2 G ad (EM G ad MM) (QP PostI G ad (EM G ad MM)) X (f_X7_isOpen_22 s0 M) L 22 [.int s0] M := by
  intro s0 M L hL
  unfold f_X7_isOpen_22
  refine KF.locals (lsub_le hL) ?_
  exact k_zret hX dX7_isOpen_22
set_option maxHeartbeats 4000000 in
set_option maxRecDepth 100000 in
theorem w_X7_isOpen_21 {l : Launch} {G : GL} {ad : Nat → Nat} {MM : Mem} {X : CT} (hX : Cx l { frames := 2, cells := 0, slots := 0, locals := 43 } cX7_isOpen RX7 2 (some .boolean) G ad X) : ∀ (M : Mem) {L : List (Option Value)}, lsub [none, none] L → KF l { frames := 2, cells := 0, slots := 0, locals := 43 } 2 G ad (EM G ad MM) (QP PostI G ad (EM G ad MM)) X (f_X7_isOpen_21 M) L 21 [] M := by
  intro M L hL
  unfold f_X7_isOpen_21
  refine KF.locals (lsub_le hL) ?_
  refine k_iconst (v := (nI 0)) hX rfl dX7_isOpen_21 ?_
  exact w_X7_isOpen_22 hX (nI 0) M trivial
set_option maxHeartbeats 4000000 in
set_option maxRecDepth 100000 in
theorem w_X7_isOpen {l : Launch} {G : GL} {ad : Nat → Nat} {MM : Mem} {X : CT} (hX : Cx l { frames := 2, cells := 0, slots := 0, locals := 43 } cX7_isOpen RX7 2 (some .boolean) G ad X) {p1 : Int32} {M : Mem} : KF l { frames := 2, cells := 0, slots := 0, locals := 43 } 2 G ad (EM G ad MM) (QP PostI G ad (EM G ad MM)) X (f_X7_isOpen p1 M) [some (.ref (ad 218)), some (.int p1)] 0 [] M := by
  unfold f_X7_isOpen
  refine k_aload_n hX (i := 0) rfl rfl dX7_isOpen_0 ?_
  refine k_iload_n hX (i := 1) rfl rfl dX7_isOpen_1 ?_
  refine k_callVI (vs := [.int p1]) hX (fun _ h9 => m_X7_isThere hX.2.2.2.2.2.2.1  h9) io_218 rfl ml_X7_174 ⟨Nat.le_of_ble_eq_true rfl, Nat.le_of_ble_eq_true rfl⟩ rfl rfl (Nat.le_of_ble_eq_true rfl) dX7_isOpen_2 (fun q1 => ?_)
  refine k_if_eq (tgt := 21) hX dX7_isOpen_5 (by decide) (fun b2 => ?_) (fun b2 => ?_)
  · exact w_X7_isOpen_21 hX q1.2 trivial
  refine k_aload_n hX (i := 0) rfl rfl dX7_isOpen_8 ?_
  refine k_iload_n hX (i := 1) rfl rfl dX7_isOpen_9 ?_
  refine k_callVI (vs := [.int p1]) hX (fun _ h9 => m_X7_verdict hX.2.2.2.2.2.2.1  h9) io_218 rfl ml_X7_162 ⟨Nat.le_of_ble_eq_true rfl, Nat.le_of_ble_eq_true rfl⟩ rfl rfl (Nat.le_of_ble_eq_true rfl) dX7_isOpen_10 (fun q3 => ?_)
  refine k_iconst (v := (nI 2)) hX rfl dX7_isOpen_13 ?_
  refine k_icmp_ne (tgt := 21) hX dX7_isOpen_14 (by decide) (fun b4 => ?_) (fun b4 => ?_)
  · exact w_X7_isOpen_21 hX q3.2 trivial
  refine k_iconst (v := (nI 1)) hX rfl dX7_isOpen_17 ?_
  refine k_goto (tgt := 22) hX dX7_isOpen_18 (by decide) ?_
  exact w_X7_isOpen_22 hX (nI 1) q3.2 trivial
set_option maxRecDepth 100000 in
theorem m_X7_isOpen {l : Launch} {G : GL} {ad : Nat → Nat} {MM : Mem} (hAd : AdOK G ad) {p1 : Int32} {M : Mem} {r : Rv} (h : f_X7_isOpen p1 M = some r) : Ct PostI l G ad (EM G ad MM) yX7_isOpen cX7_isOpen 2 (some .boolean) 2 43 [.ref (ad 218), .int p1] M r := ct_of' hAd (by decide +kernel) (List.forall_mem_cons.mpr ⟨rfl, (List.forall_mem_cons.mpr ⟨rfl, (fun _ h => absurd h List.not_mem_nil)⟩)⟩) (Nat.le_of_ble_eq_true rfl) (L := [some (.ref (ad 218)), some (.int p1)]) rfl (fun _ hX => w_X7_isOpen hX) h
set_option maxHeartbeats 4000000 in
set_option maxRecDepth 100000 in
theorem w_X7_open_34 {l : Launch} {G : GL} {ad : Nat → Nat} {MM : Mem} {X : CT} (hX : Cx l { frames := 5, cells := 0, slots := 0, locals := 117 } cX7_open RX7 6 (some .int) G ad X) {k9 : Int32 → Int32 → Mem → Option Rv} (hk9 : ∀ (x1 : Int32) (x2 : Int32) (M : Mem) {L : List (Option Value)}, lsub [some (.ref (ad 218)), some (.int x1), some (.int x2), none, none, none] L → KF l { frames := 5, cells := 0, slots := 0, locals := 117 } 6 G ad (EM G ad MM) (QP PostI G ad (EM G ad MM)) X (k9 x1 x2 M) L 9 [] M) : ∀ (x1 : Int32) (x2 : Int32) (M : Mem) {L : List (Option Value)}, lsub [some (.ref (ad 218)), some (.int x1), some (.int x2), none, none, none] L → KF l { frames := 5, cells := 0, slots := 0, locals := 117 } 6 G ad (EM G ad MM) (QP PostI G ad (EM G ad MM)) X (f_X7_open_34 k9 x1 x2 M) L 34 [] M := by
  intro x1 x2 M L hL
  unfold f_X7_open_34
  refine KF.locals (lsub_le hL) ?_
  refine k_iinc (v := x2 + nI 1) (L' := [some (.ref (ad 218)), some (.int x1), some (.int (x2 + nI 1)), none, none, none]) hX (i := 2) rfl rfl (by decide) rfl dX7_open_34 ?_
  refine k_goto (tgt := 9) hX dX7_open_37 (by decide) ?_
  exact hk9 x1 (x2 + nI 1) M ⟨rfl, rfl, rfl, trivial⟩
set_option maxHeartbeats 4000000 in
set_option maxRecDepth 100000 in
theorem w_X7_open_126 {l : Launch} {G : GL} {ad : Nat → Nat} {MM : Mem} {X : CT} (hX : Cx l { frames := 5, cells := 0, slots := 0, locals := 117 } cX7_open RX7 6 (some .int) G ad X) {k45 : Int32 → Int32 → Int32 → Mem → Option Rv} (hk45 : ∀ (x1 : Int32) (x2 : Int32) (x3 : Int32) (M : Mem) {L : List (Option Value)}, lsub [some (.ref (ad 218)), some (.int x1), some (.int x2), some (.int x3), none, none] L → KF l { frames := 5, cells := 0, slots := 0, locals := 117 } 6 G ad (EM G ad MM) (QP PostI G ad (EM G ad MM)) X (k45 x1 x2 x3 M) L 45 [] M) {k57 : Int32 → Int32 → Int32 → Int32 → Int32 → Mem → Option Rv} (hk57 : ∀ (x1 : Int32) (x2 : Int32) (x3 : Int32) (x4 : Int32) (x5 : Int32) (M : Mem) {L : List (Option Value)}, lsub [some (.ref (ad 218)), some (.int x1), some (.int x2), some (.int x3), some (.int x4), some (.int x5)] L → KF l { frames := 5, cells := 0, slots := 0, locals := 117 } 6 G ad (EM G ad MM) (QP PostI G ad (EM G ad MM)) X (k57 x1 x2 x3 x4 x5 M) L 57 [] M) : ∀ (x1 : Int32) (x2 : Int32) (x3 : Int32) (x5 : Int32) (s0 : Int32) (s1 : Int32) (M : Mem) {L : List (Option Value)}, lsub [some (.ref (ad 218)), some (.int x1), some (.int x2), some (.int x3), none, some (.int x5)] L → KF l { frames := 5, cells := 0, slots := 0, locals := 117 } 6 G ad (EM G ad MM) (QP PostI G ad (EM G ad MM)) X (f_X7_open_126 k45 k57 x1 x2 x3 x5 s0 s1 M) L 126 [.int s0, .int s1] M := by
  intro x1 x2 x3 x5 s0 s1 M L hL
  unfold f_X7_open_126
  refine KF.locals (lsub_le hL) ?_
  refine k_iadd hX dX7_open_126 ?_
  refine k_istore (L' := [some (.ref (ad 218)), some (.int x1), some (.int x2), some (.int x3), some (.int (s1 + s0)), some (.int x5)]) hX (by decide) rfl dX7_open_127 ?_
  refine k_iinc (v := x5 + nI 1) (L' := [some (.ref (ad 218)), some (.int x1), some (.int x2), some (.int x3), some (.int (s1 + s0)), some (.int (x5 + nI 1))]) hX (i := 5) rfl rfl (by decide) rfl dX7_open_129 ?_
  refine k_goto (tgt := 57) hX dX7_open_132 (by decide) ?_
  exact hk57 x1 x2 x3 (s1 + s0) (x5 + nI 1) M ⟨rfl, rfl, rfl, rfl, rfl, rfl, trivial⟩
set_option maxHeartbeats 4000000 in
set_option maxRecDepth 100000 in
theorem w_X7_open_121 {l : Launch} {G : GL} {ad : Nat → Nat} {MM : Mem} {X : CT} (hX : Cx l { frames := 5, cells := 0, slots := 0, locals := 117 } cX7_open RX7 6 (some .int) G ad X) {k45 : Int32 → Int32 → Int32 → Mem → Option Rv} (hk45 : ∀ (x1 : Int32) (x2 : Int32) (x3 : Int32) (M : Mem) {L : List (Option Value)}, lsub [some (.ref (ad 218)), some (.int x1), some (.int x2), some (.int x3), none, none] L → KF l { frames := 5, cells := 0, slots := 0, locals := 117 } 6 G ad (EM G ad MM) (QP PostI G ad (EM G ad MM)) X (k45 x1 x2 x3 M) L 45 [] M) {k57 : Int32 → Int32 → Int32 → Int32 → Int32 → Mem → Option Rv} (hk57 : ∀ (x1 : Int32) (x2 : Int32) (x3 : Int32) (x4 : Int32) (x5 : Int32) (M : Mem) {L : List (Option Value)}, lsub [some (.ref (ad 218)), some (.int x1), some (.int x2), some (.int x3), some (.int x4), some (.int x5)] L → KF l { frames := 5, cells := 0, slots := 0, locals := 117 } 6 G ad (EM G ad MM) (QP PostI G ad (EM G ad MM)) X (k57 x1 x2 x3 x4 x5 M) L 57 [] M) : ∀ (x1 : Int32) (x2 : Int32) (x3 : Int32) (x5 : Int32) (s0 : Int32) (M : Mem) {L : List (Option Value)}, lsub [some (.ref (ad 218)), some (.int x1), some (.int x2), some (.int x3), none, some (.int x5)] L → KF l { frames := 5, cells := 0, slots := 0, locals := 117 } 6 G ad (EM G ad MM) (QP PostI G ad (EM G ad MM)) X (f_X7_open_121 k45 k57 x1 x2 x3 x5 s0 M) L 121 [.int s0] M := by
  intro x1 x2 x3 x5 s0 M L hL
  unfold f_X7_open_121
  refine KF.locals (lsub_le hL) ?_
  refine k_iconst (v := (nI 1)) hX rfl dX7_open_121 ?_
  refine k_goto (tgt := 126) hX dX7_open_122 (by decide) ?_
  exact w_X7_open_126 hX hk45 hk57 x1 x2 x3 x5 (nI 1) s0 M ⟨rfl, rfl, rfl, rfl, rfl, trivial⟩
set_option maxHeartbeats 4000000 in
set_option maxRecDepth 100000 in
theorem w_X7_open_125 {l : Launch} {G : GL} {ad : Nat → Nat} {MM : Mem} {X : CT} (hX : Cx l { frames := 5, cells := 0, slots := 0, locals := 117 } cX7_open RX7 6 (some .int) G ad X) {k45 : Int32 → Int32 → Int32 → Mem → Option Rv} (hk45 : ∀ (x1 : Int32) (x2 : Int32) (x3 : Int32) (M : Mem) {L : List (Option Value)}, lsub [some (.ref (ad 218)), some (.int x1), some (.int x2), some (.int x3), none, none] L → KF l { frames := 5, cells := 0, slots := 0, locals := 117 } 6 G ad (EM G ad MM) (QP PostI G ad (EM G ad MM)) X (k45 x1 x2 x3 M) L 45 [] M) {k57 : Int32 → Int32 → Int32 → Int32 → Int32 → Mem → Option Rv} (hk57 : ∀ (x1 : Int32) (x2 : Int32) (x3 : Int32) (x4 : Int32) (x5 : Int32) (M : Mem) {L : List (Option Value)}, lsub [some (.ref (ad 218)), some (.int x1), some (.int x2), some (.int x3), some (.int x4), some (.int x5)] L → KF l { frames := 5, cells := 0, slots := 0, locals := 117 } 6 G ad (EM G ad MM) (QP PostI G ad (EM G ad MM)) X (k57 x1 x2 x3 x4 x5 M) L 57 [] M) : ∀ (x1 : Int32) (x2 : Int32) (x3 : Int32) (x5 : Int32) (s0 : Int32) (M : Mem) {L : List (Option Value)}, lsub [some (.ref (ad 218)), some (.int x1), some (.int x2), some (.int x3), none, some (.int x5)] L → KF l { frames := 5, cells := 0, slots := 0, locals := 117 } 6 G ad (EM G ad MM) (QP PostI G ad (EM G ad MM)) X (f_X7_open_125 k45 k57 x1 x2 x3 x5 s0 M) L 125 [.int s0] M := by
  intro x1 x2 x3 x5 s0 M L hL
  unfold f_X7_open_125
  refine KF.locals (lsub_le hL) ?_
  refine k_iconst (v := (nI 0)) hX rfl dX7_open_125 ?_
  exact w_X7_open_126 hX hk45 hk57 x1 x2 x3 x5 (nI 0) s0 M ⟨rfl, rfl, rfl, rfl, rfl, trivial⟩
set_option maxHeartbeats 4000000 in
set_option maxRecDepth 100000 in
theorem w_X7_open_154 {l : Launch} {G : GL} {ad : Nat → Nat} {MM : Mem} {X : CT} (hX : Cx l { frames := 5, cells := 0, slots := 0, locals := 117 } cX7_open RX7 6 (some .int) G ad X) {k45 : Int32 → Int32 → Int32 → Mem → Option Rv} (hk45 : ∀ (x1 : Int32) (x2 : Int32) (x3 : Int32) (M : Mem) {L : List (Option Value)}, lsub [some (.ref (ad 218)), some (.int x1), some (.int x2), some (.int x3), none, none] L → KF l { frames := 5, cells := 0, slots := 0, locals := 117 } 6 G ad (EM G ad MM) (QP PostI G ad (EM G ad MM)) X (k45 x1 x2 x3 M) L 45 [] M) : ∀ (x1 : Int32) (x3 : Int32) (s0 : Int32) (M : Mem) {L : List (Option Value)}, lsub [some (.ref (ad 218)), some (.int x1), none, some (.int x3), none, none] L → KF l { frames := 5, cells := 0, slots := 0, locals := 117 } 6 G ad (EM G ad MM) (QP PostI G ad (EM G ad MM)) X (f_X7_open_154 k45 x1 x3 s0 M) L 154 [.int s0] M := by
  intro x1 x3 s0 M L hL
  unfold f_X7_open_154
  refine KF.locals (lsub_le hL) ?_
  refine k_istore_n (L' := [some (.ref (ad 218)), some (.int x1), some (.int s0), some (.int x3), none, none]) hX (i := 2) rfl (by decide) rfl dX7_open_154 ?_
  refine k_iinc (v := x3 + nI 1) (L' := [some (.ref (ad 218)), some (.int x1), some (.int s0), some (.int (x3 + nI 1)), none, none]) hX (i := 3) rfl rfl (by decide) rfl dX7_open_155 ?_
  refine k_goto (tgt := 45) hX dX7_open_158 (by decide) ?_
  exact hk45 x1 s0 (x3 + nI 1) M ⟨rfl, rfl, rfl, rfl, trivial⟩
set_option maxHeartbeats 4000000 in
set_option maxRecDepth 100000 in
theorem w_X7_open_153 {l : Launch} {G : GL} {ad : Nat → Nat} {MM : Mem} {X : CT} (hX : Cx l { frames := 5, cells := 0, slots := 0, locals := 117 } cX7_open RX7 6 (some .int) G ad X) {k45 : Int32 → Int32 → Int32 → Mem → Option Rv} (hk45 : ∀ (x1 : Int32) (x2 : Int32) (x3 : Int32) (M : Mem) {L : List (Option Value)}, lsub [some (.ref (ad 218)), some (.int x1), some (.int x2), some (.int x3), none, none] L → KF l { frames := 5, cells := 0, slots := 0, locals := 117 } 6 G ad (EM G ad MM) (QP PostI G ad (EM G ad MM)) X (k45 x1 x2 x3 M) L 45 [] M) : ∀ (x1 : Int32) (x2 : Int32) (x3 : Int32) (M : Mem) {L : List (Option Value)}, lsub [some (.ref (ad 218)), some (.int x1), some (.int x2), some (.int x3), none, none] L → KF l { frames := 5, cells := 0, slots := 0, locals := 117 } 6 G ad (EM G ad MM) (QP PostI G ad (EM G ad MM)) X (f_X7_open_153 k45 x1 x2 x3 M) L 153 [] M := by
  intro x1 x2 x3 M L hL
  unfold f_X7_open_153
  refine KF.locals (lsub_le hL) ?_
  refine k_iload_n hX (i := 2) rfl rfl dX7_open_153 ?_
  exact w_X7_open_154 hX hk45 x1 x3 x2 M ⟨rfl, rfl, rfl, trivial⟩
set_option maxHeartbeats 4000000 in
set_option maxRecDepth 100000 in
theorem w_X7_open_135 {l : Launch} {G : GL} {ad : Nat → Nat} {MM : Mem} {X : CT} (hX : Cx l { frames := 5, cells := 0, slots := 0, locals := 117 } cX7_open RX7 6 (some .int) G ad X) {k45 : Int32 → Int32 → Int32 → Mem → Option Rv} (hk45 : ∀ (x1 : Int32) (x2 : Int32) (x3 : Int32) (M : Mem) {L : List (Option Value)}, lsub [some (.ref (ad 218)), some (.int x1), some (.int x2), some (.int x3), none, none] L → KF l { frames := 5, cells := 0, slots := 0, locals := 117 } 6 G ad (EM G ad MM) (QP PostI G ad (EM G ad MM)) X (k45 x1 x2 x3 M) L 45 [] M) : ∀ (x1 : Int32) (x2 : Int32) (x3 : Int32) (x4 : Int32) (M : Mem) {L : List (Option Value)}, lsub [some (.ref (ad 218)), some (.int x1), some (.int x2), some (.int x3), some (.int x4), none] L → KF l { frames := 5, cells := 0, slots := 0, locals := 117 } 6 G ad (EM G ad MM) (QP PostI G ad (EM G ad MM)) X (f_X7_open_135 k45 x1 x2 x3 x4 M) L 135 [] M := by
  intro x1 x2 x3 x4 M L hL
  unfold f_X7_open_135
  refine KF.locals (lsub_le hL) ?_
  refine k_aload_n hX (i := 0) rfl rfl dX7_open_135 ?_
  refine k_iload_n hX (i := 3) rfl rfl dX7_open_136 ?_
  refine k_callVI (vs := [.int x3]) hX (fun _ h9 => m_X7_isOpen hX.2.2.2.2.2.2.1  h9) io_218 rfl ml_X7_276 ⟨Nat.le_of_ble_eq_true rfl, Nat.le_of_ble_eq_true rfl⟩ rfl rfl (Nat.le_of_ble_eq_true rfl) dX7_open_137 (fun q1 => ?_)
  refine k_if_eq (tgt := 153) hX dX7_open_140 (by decide) (fun b2 => ?_) (fun b2 => ?_)
  · exact w_X7_open_153 hX hk45 x1 x2 x3 q1.2 ⟨rfl, rfl, rfl, rfl, trivial⟩
  refine k_iload hX rfl dX7_open_143 ?_
  refine k_iload_n hX (i := 1) rfl rfl dX7_open_145 ?_
  refine k_icmp_ne (tgt := 153) hX dX7_open_146 (by decide) (fun b3 => ?_) (fun b3 => ?_)
  · exact w_X7_open_153 hX hk45 x1 x2 x3 q1.2 ⟨rfl, rfl, rfl, rfl, trivial⟩
  refine k_iload_n hX (i := 3) rfl rfl dX7_open_149 ?_
  refine k_goto (tgt := 154) hX dX7_open_150 (by decide) ?_
  exact w_X7_open_154 hX hk45 x1 x3 x3 q1.2 ⟨rfl, rfl, rfl, trivial⟩
set_option maxHeartbeats 4000000 in
set_option maxRecDepth 100000 in
theorem w_X7_open_57 {l : Launch} {G : GL} {ad : Nat → Nat} {MM : Mem} {X : CT} (hX : Cx l { frames := 5, cells := 0, slots := 0, locals := 117 } cX7_open RX7 6 (some .int) G ad X) {k45 : Int32 → Int32 → Int32 → Mem → Option Rv} (hk45 : ∀ (x1 : Int32) (x2 : Int32) (x3 : Int32) (M : Mem) {L : List (Option Value)}, lsub [some (.ref (ad 218)), some (.int x1), some (.int x2), some (.int x3), none, none] L → KF l { frames := 5, cells := 0, slots := 0, locals := 117 } 6 G ad (EM G ad MM) (QP PostI G ad (EM G ad MM)) X (k45 x1 x2 x3 M) L 45 [] M) : ∀ (n : Nat), ∀ (x1 : Int32) (x2 : Int32) (x3 : Int32) (x4 : Int32) (x5 : Int32) (M : Mem) {L : List (Option Value)}, lsub [some (.ref (ad 218)), some (.int x1), some (.int x2), some (.int x3), some (.int x4), some (.int x5)] L → KF l { frames := 5, cells := 0, slots := 0, locals := 117 } 6 G ad (EM G ad MM) (QP PostI G ad (EM G ad MM)) X (f_X7_open_57 k45 n x1 x2 x3 x4 x5 M) L 57 [] M := by
  intro n
  induction n with
  | zero =>
    intro x1 x2 x3 x4 x5 M L hL
    exact KF.none'
  | succ n ih =>
    intro x1 x2 x3 x4 x5 M L hL
    rw [f_X7_open_57]
    refine KF.locals (lsub_le hL) ?_
    refine k_iload hX rfl dX7_open_57 ?_
    refine k_bipush (v := (nI 8)) hX rfl dX7_open_59 ?_
    refine k_icmp_ge (tgt := 135) hX dX7_open_61 (by decide) (fun b1 => ?_) (fun b1 => ?_)
    · exact w_X7_open_135 hX hk45 x1 x2 x3 x4 M ⟨rfl, rfl, rfl, rfl, rfl, trivial⟩
    refine k_aload_n hX (i := 0) rfl rfl dX7_open_64 ?_
    refine k_iload_n hX (i := 3) rfl rfl dX7_open_65 ?_
    refine k_callVI (vs := [.int x3]) hX (fun _ h9 => m_X7_isOpen hX.2.2.2.2.2.2.1  h9) io_218 rfl ml_X7_276 ⟨Nat.le_of_ble_eq_true rfl, Nat.le_of_ble_eq_true rfl⟩ rfl rfl (Nat.le_of_ble_eq_true rfl) dX7_open_66 (fun q2 => ?_)
    refine k_if_eq (tgt := 135) hX dX7_open_69 (by decide) (fun b3 => ?_) (fun b3 => ?_)
    · exact w_X7_open_135 hX hk45 x1 x2 x3 x4 q2.2 ⟨rfl, rfl, rfl, rfl, rfl, trivial⟩
    refine k_iload hX rfl dX7_open_72 ?_
    refine k_aload_n hX (i := 0) rfl rfl dX7_open_74 ?_
    refine k_iload hX rfl dX7_open_75 ?_
    refine k_callVI (vs := [.int x5]) hX (fun _ h9 => m_X7_isOpen hX.2.2.2.2.2.2.1  h9) io_218 rfl ml_X7_276 ⟨Nat.le_of_ble_eq_true rfl, Nat.le_of_ble_eq_true rfl⟩ rfl rfl (Nat.le_of_ble_eq_true rfl) dX7_open_77 (fun q4 => ?_)
    refine k_if_eq (tgt := 125) hX dX7_open_80 (by decide) (fun b5 => ?_) (fun b5 => ?_)
    · exact w_X7_open_125 hX hk45 ih x1 x2 x3 x5 x4 q4.2 ⟨rfl, rfl, rfl, rfl, rfl, trivial⟩
    refine k_aload_n hX (i := 0) rfl rfl dX7_open_83 ?_
    refine k_get hX io_218 fl_X7_49 rfl dX7_open_84 ?_
    refine k_iload hX rfl dX7_open_87 ?_
    refine k_ald hX ia_231 dX7_open_89 (fun v6 => ?_)
    refine k_aload_n hX (i := 0) rfl rfl dX7_open_90 ?_
    refine k_get hX io_218 fl_X7_49 rfl dX7_open_91 ?_
    refine k_iload_n hX (i := 3) rfl rfl dX7_open_94 ?_
    refine k_ald hX ia_231 dX7_open_95 (fun v7 => ?_)
    refine k_icmp_gt (tgt := 121) hX dX7_open_96 (by decide) (fun b8 => ?_) (fun b8 => ?_)
    · exact w_X7_open_121 hX hk45 ih x1 x2 x3 x5 x4 q4.2 ⟨rfl, rfl, rfl, rfl, rfl, trivial⟩
    refine k_aload_n hX (i := 0) rfl rfl dX7_open_99 ?_
    refine k_get hX io_218 fl_X7_49 rfl dX7_open_100 ?_
    refine k_iload hX rfl dX7_open_103 ?_
    refine k_ald hX ia_231 dX7_open_105 (fun v9 => ?_)
    refine k_aload_n hX (i := 0) rfl rfl dX7_open_106 ?_
    refine k_get hX io_218 fl_X7_49 rfl dX7_open_107 ?_
    refine k_iload_n hX (i := 3) rfl rfl dX7_open_110 ?_
    refine k_ald hX ia_231 dX7_open_111 (fun v10 => ?_)
    refine k_icmp_ne (tgt := 125) hX dX7_open_112 (by decide) (fun b11 => ?_) (fun b11 => ?_)
    · exact w_X7_open_125 hX hk45 ih x1 x2 x3 x5 x4 q4.2 ⟨rfl, rfl, rfl, rfl, rfl, trivial⟩
    refine k_iload hX rfl dX7_open_115 ?_
    refine k_iload_n hX (i := 3) rfl rfl dX7_open_117 ?_
    refine k_icmp_ge (tgt := 125) hX dX7_open_118 (by decide) (fun b12 => ?_) (fun b12 => ?_)
    · exact w_X7_open_125 hX hk45 ih x1 x2 x3 x5 x4 q4.2 ⟨rfl, rfl, rfl, rfl, rfl, trivial⟩
    exact w_X7_open_121 hX hk45 ih x1 x2 x3 x5 x4 q4.2 ⟨rfl, rfl, rfl, rfl, rfl, trivial⟩
set_option maxHeartbeats 4000000 in
set_option maxRecDepth 100000 in
theorem w_X7_open_45 {l : Launch} {G : GL} {ad : Nat → Nat} {MM : Mem} {X : CT} (hX : Cx l { frames := 5, cells := 0, slots := 0, locals := 117 } cX7_open RX7 6 (some .int) G ad X) : ∀ (n : Nat), ∀ (x1 : Int32) (x2 : Int32) (x3 : Int32) (M : Mem) {L : List (Option Value)}, lsub [some (.ref (ad 218)), some (.int x1), some (.int x2), some (.int x3), none, none] L → KF l { frames := 5, cells := 0, slots := 0, locals := 117 } 6 G ad (EM G ad MM) (QP PostI G ad (EM G ad MM)) X (f_X7_open_45 n x1 x2 x3 M) L 45 [] M := by
  intro n
  induction n with
  | zero =>
    intro x1 x2 x3 M L hL
    exact KF.none'
  | succ n ih =>
    intro x1 x2 x3 M L hL
    rw [f_X7_open_45]
    refine KF.locals (lsub_le hL) ?_
    refine k_iload_n hX (i := 3) rfl rfl dX7_open_45 ?_
    refine k_bipush (v := (nI 8)) hX rfl dX7_open_46 ?_
    refine k_icmp_ge (tgt := 161) hX dX7_open_48 (by decide) (fun b1 => ?_) (fun b1 => ?_)
    · refine k_iload_n hX (i := 2) rfl rfl dX7_open_161 ?_
      exact k_iret hX dX7_open_162
    refine k_iconst (v := (nI 0)) hX rfl dX7_open_51 ?_
    refine k_istore (L' := [some (.ref (ad 218)), some (.int x1), some (.int x2), some (.int x3), some (.int (nI 0)), none]) hX (by decide) rfl dX7_open_52 ?_
    refine k_iconst (v := (nI 0)) hX rfl dX7_open_54 ?_
    refine k_istore (L' := [some (.ref (ad 218)), some (.int x1), some (.int x2), some (.int x3), some (.int (nI 0)), some (.int (nI 0))]) hX (by decide) rfl dX7_open_55 ?_
    exact w_X7_open_57 hX ih fuelN x1 x2 x3 (nI 0) (nI 0) M ⟨rfl, rfl, rfl, rfl, rfl, rfl, trivial⟩
set_option maxHeartbeats 4000000 in
set_option maxRecDepth 100000 in
theorem w_X7_open_9 {l : Launch} {G : GL} {ad : Nat → Nat} {MM : Mem} {X : CT} (hX : Cx l { frames := 5, cells := 0, slots := 0, locals := 117 } cX7_open RX7 6 (some .int) G ad X) : ∀ (n : Nat), ∀ (x1 : Int32) (x2 : Int32) (M : Mem) {L : List (Option Value)}, lsub [some (.ref (ad 218)), some (.int x1), some (.int x2), none, none, none] L → KF l { frames := 5, cells := 0, slots := 0, locals := 117 } 6 G ad (EM G ad MM) (QP PostI G ad (EM G ad MM)) X (f_X7_open_9 n x1 x2 M) L 9 [] M := by
  intro n
  induction n with
  | zero =>
    intro x1 x2 M L hL
    exact KF.none'
  | succ n ih =>
    intro x1 x2 M L hL
    rw [f_X7_open_9]
    refine KF.locals (lsub_le hL) ?_
    refine k_iload_n hX (i := 2) rfl rfl dX7_open_9 ?_
    refine k_bipush (v := (nI 8)) hX rfl dX7_open_10 ?_
    refine k_icmp_ge (tgt := 40) hX dX7_open_12 (by decide) (fun b1 => ?_) (fun b1 => ?_)
    · refine k_bipush (v := (-5)) hX rfl dX7_open_40 ?_
      refine k_istore_n (L' := [some (.ref (ad 218)), some (.int x1), some (.int (-5)), none, none, none]) hX (i := 2) rfl (by decide) rfl dX7_open_42 ?_
      refine k_iconst (v := (nI 0)) hX rfl dX7_open_43 ?_
      refine k_istore_n (L' := [some (.ref (ad 218)), some (.int x1), some (.int (-5)), some (.int (nI 0)), none, none]) hX (i := 3) rfl (by decide) rfl dX7_open_44 ?_
      exact w_X7_open_45 hX fuelN x1 (-5) (nI 0) M ⟨rfl, rfl, rfl, rfl, trivial⟩
    refine k_aload_n hX (i := 0) rfl rfl dX7_open_15 ?_
    refine k_iload_n hX (i := 2) rfl rfl dX7_open_16 ?_
    refine k_callVI (vs := [.int x2]) hX (fun _ h9 => m_X7_isOpen hX.2.2.2.2.2.2.1  h9) io_218 rfl ml_X7_276 ⟨Nat.le_of_ble_eq_true rfl, Nat.le_of_ble_eq_true rfl⟩ rfl rfl (Nat.le_of_ble_eq_true rfl) dX7_open_17 (fun q2 => ?_)
    refine k_if_eq (tgt := 34) hX dX7_open_20 (by decide) (fun b3 => ?_) (fun b3 => ?_)
    · exact w_X7_open_34 hX ih x1 x2 q2.2 ⟨rfl, rfl, rfl, trivial⟩
    refine k_aload_n hX (i := 0) rfl rfl dX7_open_23 ?_
    refine k_get hX io_218 fl_X7_49 rfl dX7_open_24 ?_
    refine k_iload_n hX (i := 2) rfl rfl dX7_open_27 ?_
    refine k_aload_n hX (i := 0) rfl rfl dX7_open_28 ?_
    refine k_iload_n hX (i := 2) rfl rfl dX7_open_29 ?_
    refine k_callVI (vs := [.int x2]) hX (fun _ h9 => m_X7_sizes hX.2.2.2.2.2.2.1  h9) io_218 rfl ml_X7_264 ⟨Nat.le_of_ble_eq_true rfl, Nat.le_of_ble_eq_true rfl⟩ rfl rfl (Nat.le_of_ble_eq_true rfl) dX7_open_30 (fun q4 => ?_)
    refine k_ast hX locM ia_231 dX7_open_33 (fun M5 => ?_)
    exact w_X7_open_34 hX ih x1 x2 M5 ⟨rfl, rfl, rfl, trivial⟩
set_option maxHeartbeats 4000000 in
set_option maxRecDepth 100000 in
theorem w_X7_open {l : Launch} {G : GL} {ad : Nat → Nat} {MM : Mem} {X : CT} (hX : Cx l { frames := 5, cells := 0, slots := 0, locals := 117 } cX7_open RX7 6 (some .int) G ad X) {p1 : Int32} {M : Mem} : KF l { frames := 5, cells := 0, slots := 0, locals := 117 } 6 G ad (EM G ad MM) (QP PostI G ad (EM G ad MM)) X (f_X7_open p1 M) [some (.ref (ad 218)), some (.int p1), none, none, none, none] 0 [] M := by
  unfold f_X7_open
  refine k_iload_n hX (i := 1) rfl rfl dX7_open_0 ?_
  refine k_if_ge (tgt := 7) hX dX7_open_1 (by decide) (fun b1 => ?_) (fun b1 => ?_)
  · refine k_iconst (v := (nI 0)) hX rfl dX7_open_7 ?_
    refine k_istore_n (L' := [some (.ref (ad 218)), some (.int p1), some (.int (nI 0)), none, none, none]) hX (i := 2) rfl (by decide) rfl dX7_open_8 ?_
    exact w_X7_open_9 hX fuelN p1 (nI 0) M ⟨rfl, rfl, rfl, trivial⟩
  refine k_bipush (v := (-2)) hX rfl dX7_open_4 ?_
  exact k_iret hX dX7_open_6
set_option maxRecDepth 100000 in
theorem m_X7_open {l : Launch} {G : GL} {ad : Nat → Nat} {MM : Mem} (hAd : AdOK G ad) {p1 : Int32} {M : Mem} {r : Rv} (h : f_X7_open p1 M = some r) : Ct PostI l G ad (EM G ad MM) yX7_open cX7_open 6 (some .int) 5 117 [.ref (ad 218), .int p1] M r := ct_of' hAd (by decide +kernel) (List.forall_mem_cons.mpr ⟨rfl, (List.forall_mem_cons.mpr ⟨rfl, (fun _ h => absurd h List.not_mem_nil)⟩)⟩) (Nat.le_of_ble_eq_true rfl) (L := [some (.ref (ad 218)), some (.int p1), none, none, none, none]) rfl (fun _ hX => w_X7_open hX) h
set_option maxHeartbeats 4000000 in
set_option maxRecDepth 100000 in
theorem w_X7_at_32 {l : Launch} {G : GL} {ad : Nat → Nat} {MM : Mem} {X : CT} (hX : Cx l { frames := 0, cells := 0, slots := 0, locals := 0 } cX7_at RX7 2 (some .int) G ad X) : ∀ (s0 : Int32) (M : Mem) {L : List (Option Value)}, lsub [none, none] L → KF l { frames := 0, cells := 0, slots := 0, locals := 0 } 2 G ad (EM G ad MM) (QP PostI G ad (EM G ad MM)) X (f_X7_at_32 s0 M) L 32 [.int s0] M := by
  intro s0 M L hL
  unfold f_X7_at_32
  refine KF.locals (lsub_le hL) ?_
  exact k_iret hX dX7_at_32
set_option maxHeartbeats 4000000 in
set_option maxRecDepth 100000 in
theorem w_X7_at {l : Launch} {G : GL} {ad : Nat → Nat} {MM : Mem} {X : CT} (hX : Cx l { frames := 0, cells := 0, slots := 0, locals := 0 } cX7_at RX7 2 (some .int) G ad X) {p1 : Int32} {M : Mem} : KF l { frames := 0, cells := 0, slots := 0, locals := 0 } 2 G ad (EM G ad MM) (QP PostI G ad (EM G ad MM)) X (f_X7_at p1 M) [some (.ref (ad 218)), some (.int p1)] 0 [] M := by
  unfold f_X7_at
  refine k_iload_n hX (i := 1) rfl rfl dX7_at_0 ?_
  refine k_if_ge (tgt := 9) hX dX7_at_1 (by decide) (fun b1 => ?_) (fun b1 => ?_)
  · refine k_iload_n hX (i := 1) rfl rfl dX7_at_9 ?_
    refine k_aload_n hX (i := 0) rfl rfl dX7_at_10 ?_
    refine k_get hX io_218 fl_X7_7 rfl dX7_at_11 ?_
    refine k_iconst (v := (nI 0)) hX rfl dX7_at_14 ?_
    refine k_ald hX ia_219 dX7_at_15 (fun v2 => ?_)
    refine k_icmp_ge (tgt := 30) hX dX7_at_16 (by decide) (fun b3 => ?_) (fun b3 => ?_)
    · refine k_bipush (v := (-5)) hX rfl dX7_at_30 ?_
      exact w_X7_at_32 hX (-5) M trivial
    refine k_aload_n hX (i := 0) rfl rfl dX7_at_19 ?_
    refine k_get hX io_218 fl_X7_7 rfl dX7_at_20 ?_
    refine k_iconst (v := (nI 4)) hX rfl dX7_at_23 ?_
    refine k_iload_n hX (i := 1) rfl rfl dX7_at_24 ?_
    refine k_iadd hX dX7_at_25 ?_
    refine k_ald hX ia_219 dX7_at_26 (fun v4 => ?_)
    refine k_goto (tgt := 32) hX dX7_at_27 (by decide) ?_
    exact w_X7_at_32 hX v4 M trivial
  refine k_bipush (v := (-2)) hX rfl dX7_at_4 ?_
  refine k_goto (tgt := 32) hX dX7_at_6 (by decide) ?_
  exact w_X7_at_32 hX (-2) M trivial
set_option maxRecDepth 100000 in
theorem m_X7_at {l : Launch} {G : GL} {ad : Nat → Nat} {MM : Mem} (hAd : AdOK G ad) {p1 : Int32} {M : Mem} {r : Rv} (h : f_X7_at p1 M = some r) : Ct PostI l G ad (EM G ad MM) yX7_at cX7_at 2 (some .int) 0 0 [.ref (ad 218), .int p1] M r := ct_of' hAd (by decide +kernel) (List.forall_mem_cons.mpr ⟨rfl, (List.forall_mem_cons.mpr ⟨rfl, (fun _ h => absurd h List.not_mem_nil)⟩)⟩) (Nat.le_of_ble_eq_true rfl) (L := [some (.ref (ad 218)), some (.int p1)]) rfl (fun _ hX => w_X7_at hX) h
set_option maxHeartbeats 4000000 in
set_option maxRecDepth 100000 in
theorem w_X7_wishesThat_33 {l : Launch} {G : GL} {ad : Nat → Nat} {MM : Mem} {X : CT} (hX : Cx l { frames := 2, cells := 0, slots := 0, locals := 43 } cX7_wishesThat RX7 4 (some .int) G ad X) {k4 : Int32 → Int32 → Int32 → Mem → Option Rv} (hk4 : ∀ (x1 : Int32) (x2 : Int32) (x3 : Int32) (M : Mem) {L : List (Option Value)}, lsub [some (.ref (ad 218)), some (.int x1), some (.int x2), some (.int x3)] L → KF l { frames := 2, cells := 0, slots := 0, locals := 43 } 4 G ad (EM G ad MM) (QP PostI G ad (EM G ad MM)) X (k4 x1 x2 x3 M) L 4 [] M) : ∀ (x1 : Int32) (x3 : Int32) (s0 : Int32) (s1 : Int32) (M : Mem) {L : List (Option Value)}, lsub [some (.ref (ad 218)), some (.int x1), none, some (.int x3)] L → KF l { frames := 2, cells := 0, slots := 0, locals := 43 } 4 G ad (EM G ad MM) (QP PostI G ad (EM G ad MM)) X (f_X7_wishesThat_33 k4 x1 x3 s0 s1 M) L 33 [.int s0, .int s1] M := by
  intro x1 x3 s0 s1 M L hL
  unfold f_X7_wishesThat_33
  refine KF.locals (lsub_le hL) ?_
  refine k_iadd hX dX7_wishesThat_33 ?_
  refine k_istore_n (L' := [some (.ref (ad 218)), some (.int x1), some (.int (s1 + s0)), some (.int x3)]) hX (i := 2) rfl (by decide) rfl dX7_wishesThat_34 ?_
  refine k_iinc (v := x3 + nI 1) (L' := [some (.ref (ad 218)), some (.int x1), some (.int (s1 + s0)), some (.int (x3 + nI 1))]) hX (i := 3) rfl rfl (by decide) rfl dX7_wishesThat_35 ?_
  refine k_goto (tgt := 4) hX dX7_wishesThat_38 (by decide) ?_
  exact hk4 x1 (s1 + s0) (x3 + nI 1) M ⟨rfl, rfl, rfl, rfl, trivial⟩
set_option maxHeartbeats 4000000 in
set_option maxRecDepth 100000 in
theorem w_X7_wishesThat_32 {l : Launch} {G : GL} {ad : Nat → Nat} {MM : Mem} {X : CT} (hX : Cx l { frames := 2, cells := 0, slots := 0, locals := 43 } cX7_wishesThat RX7 4 (some .int) G ad X) {k4 : Int32 → Int32 → Int32 → Mem → Option Rv} (hk4 : ∀ (x1 : Int32) (x2 : Int32) (x3 : Int32) (M : Mem) {L : List (Option Value)}, lsub [some (.ref (ad 218)), some (.int x1), some (.int x2), some (.int x3)] L → KF l { frames := 2, cells := 0, slots := 0, locals := 43 } 4 G ad (EM G ad MM) (QP PostI G ad (EM G ad MM)) X (k4 x1 x2 x3 M) L 4 [] M) : ∀ (x1 : Int32) (x3 : Int32) (s0 : Int32) (M : Mem) {L : List (Option Value)}, lsub [some (.ref (ad 218)), some (.int x1), none, some (.int x3)] L → KF l { frames := 2, cells := 0, slots := 0, locals := 43 } 4 G ad (EM G ad MM) (QP PostI G ad (EM G ad MM)) X (f_X7_wishesThat_32 k4 x1 x3 s0 M) L 32 [.int s0] M := by
  intro x1 x3 s0 M L hL
  unfold f_X7_wishesThat_32
  refine KF.locals (lsub_le hL) ?_
  refine k_iconst (v := (nI 0)) hX rfl dX7_wishesThat_32 ?_
  exact w_X7_wishesThat_33 hX hk4 x1 x3 (nI 0) s0 M ⟨rfl, rfl, rfl, trivial⟩
set_option maxHeartbeats 4000000 in
set_option maxRecDepth 100000 in
theorem w_X7_wishesThat_4 {l : Launch} {G : GL} {ad : Nat → Nat} {MM : Mem} {X : CT} (hX : Cx l { frames := 2, cells := 0, slots := 0, locals := 43 } cX7_wishesThat RX7 4 (some .int) G ad X) : ∀ (n : Nat), ∀ (x1 : Int32) (x2 : Int32) (x3 : Int32) (M : Mem) {L : List (Option Value)}, lsub [some (.ref (ad 218)), some (.int x1), some (.int x2), some (.int x3)] L → KF l { frames := 2, cells := 0, slots := 0, locals := 43 } 4 G ad (EM G ad MM) (QP PostI G ad (EM G ad MM)) X (f_X7_wishesThat_4 n x1 x2 x3 M) L 4 [] M := by
  intro n
  induction n with
  | zero =>
    intro x1 x2 x3 M L hL
    exact KF.none'
  | succ n ih =>
    intro x1 x2 x3 M L hL
    rw [f_X7_wishesThat_4]
    refine KF.locals (lsub_le hL) ?_
    refine k_iload_n hX (i := 3) rfl rfl dX7_wishesThat_4 ?_
    refine k_bipush (v := (nI 8)) hX rfl dX7_wishesThat_5 ?_
    refine k_icmp_ge (tgt := 41) hX dX7_wishesThat_7 (by decide) (fun b1 => ?_) (fun b1 => ?_)
    · refine k_iload_n hX (i := 2) rfl rfl dX7_wishesThat_41 ?_
      exact k_iret hX dX7_wishesThat_42
    refine k_iload_n hX (i := 2) rfl rfl dX7_wishesThat_10 ?_
    refine k_aload_n hX (i := 0) rfl rfl dX7_wishesThat_11 ?_
    refine k_iload_n hX (i := 3) rfl rfl dX7_wishesThat_12 ?_
    refine k_callVI (vs := [.int x3]) hX (fun _ h9 => m_X7_isThere hX.2.2.2.2.2.2.1  h9) io_218 rfl ml_X7_174 ⟨Nat.le_of_ble_eq_true rfl, Nat.le_of_ble_eq_true rfl⟩ rfl rfl (Nat.le_of_ble_eq_true rfl) dX7_wishesThat_13 (fun q2 => ?_)
    refine k_if_eq (tgt := 32) hX dX7_wishesThat_16 (by decide) (fun b3 => ?_) (fun b3 => ?_)
    · exact w_X7_wishesThat_32 hX ih x1 x3 x2 q2.2 ⟨rfl, rfl, rfl, trivial⟩
    refine k_aload_n hX (i := 0) rfl rfl dX7_wishesThat_19 ?_
    refine k_iload_n hX (i := 3) rfl rfl dX7_wishesThat_20 ?_
    refine k_callVI (vs := [.int x3]) hX (fun _ h9 => m_X7_verdict hX.2.2.2.2.2.2.1  h9) io_218 rfl ml_X7_162 ⟨Nat.le_of_ble_eq_true rfl, Nat.le_of_ble_eq_true rfl⟩ rfl rfl (Nat.le_of_ble_eq_true rfl) dX7_wishesThat_21 (fun q4 => ?_)
    refine k_iload_n hX (i := 1) rfl rfl dX7_wishesThat_24 ?_
    refine k_icmp_ne (tgt := 32) hX dX7_wishesThat_25 (by decide) (fun b5 => ?_) (fun b5 => ?_)
    · exact w_X7_wishesThat_32 hX ih x1 x3 x2 q4.2 ⟨rfl, rfl, rfl, trivial⟩
    refine k_iconst (v := (nI 1)) hX rfl dX7_wishesThat_28 ?_
    refine k_goto (tgt := 33) hX dX7_wishesThat_29 (by decide) ?_
    exact w_X7_wishesThat_33 hX ih x1 x3 (nI 1) x2 q4.2 ⟨rfl, rfl, rfl, trivial⟩
set_option maxHeartbeats 4000000 in
set_option maxRecDepth 100000 in
theorem w_X7_wishesThat {l : Launch} {G : GL} {ad : Nat → Nat} {MM : Mem} {X : CT} (hX : Cx l { frames := 2, cells := 0, slots := 0, locals := 43 } cX7_wishesThat RX7 4 (some .int) G ad X) {p1 : Int32} {M : Mem} : KF l { frames := 2, cells := 0, slots := 0, locals := 43 } 4 G ad (EM G ad MM) (QP PostI G ad (EM G ad MM)) X (f_X7_wishesThat p1 M) [some (.ref (ad 218)), some (.int p1), none, none] 0 [] M := by
  unfold f_X7_wishesThat
  refine k_iconst (v := (nI 0)) hX rfl dX7_wishesThat_0 ?_
  refine k_istore_n (L' := [some (.ref (ad 218)), some (.int p1), some (.int (nI 0)), none]) hX (i := 2) rfl (by decide) rfl dX7_wishesThat_1 ?_
  refine k_iconst (v := (nI 0)) hX rfl dX7_wishesThat_2 ?_
  refine k_istore_n (L' := [some (.ref (ad 218)), some (.int p1), some (.int (nI 0)), some (.int (nI 0))]) hX (i := 3) rfl (by decide) rfl dX7_wishesThat_3 ?_
  exact w_X7_wishesThat_4 hX fuelN p1 (nI 0) (nI 0) M ⟨rfl, rfl, rfl, rfl, trivial⟩
set_option maxRecDepth 100000 in
theorem m_X7_wishesThat {l : Launch} {G : GL} {ad : Nat → Nat} {MM : Mem} (hAd : AdOK G ad) {p1 : Int32} {M : Mem} {r : Rv} (h : f_X7_wishesThat p1 M = some r) : Ct PostI l G ad (EM G ad MM) yX7_wishesThat cX7_wishesThat 4 (some .int) 2 43 [.ref (ad 218), .int p1] M r := ct_of' hAd (by decide +kernel) (List.forall_mem_cons.mpr ⟨rfl, (List.forall_mem_cons.mpr ⟨rfl, (fun _ h => absurd h List.not_mem_nil)⟩)⟩) (Nat.le_of_ble_eq_true rfl) (L := [some (.ref (ad 218)), some (.int p1), none, none]) rfl (fun _ hX => w_X7_wishesThat hX) h
set_option maxHeartbeats 4000000 in
set_option maxRecDepth 100000 in
theorem w_X7_count {l : Launch} {G : GL} {ad : Nat → Nat} {MM : Mem} {X : CT} (hX : Cx l { frames := 3, cells := 0, slots := 0, locals := 66 } cX7_count RX7 2 (some .int) G ad X) {p1 : Int32} {M : Mem} : KF l { frames := 3, cells := 0, slots := 0, locals := 66 } 2 G ad (EM G ad MM) (QP PostI G ad (EM G ad MM)) X (f_X7_count p1 M) [some (.ref (ad 218)), some (.int p1)] 0 [] M := by
  unfold f_X7_count
  refine k_iload_n hX (i := 1) rfl rfl dX7_count_0 ?_
  refine KF.ite (fun b1 => ?_) (fun b1 => ?_)
  · refine k_tabIn (tgt := 52) hX b1 dX7_count_1 (by decide) (by decide) rfl (by decide) ?_
    refine k_aload_n hX (i := 0) rfl rfl dX7_count_52 ?_
    refine k_get hX io_218 fl_X7_7 rfl dX7_count_53 ?_
    refine k_iconst (v := (nI 0)) hX rfl dX7_count_56 ?_
    refine k_ald hX ia_219 dX7_count_57 (fun v2 => ?_)
    exact k_iret hX dX7_count_58
  refine KF.ite (fun b3 => ?_) (fun b3 => ?_)
  · refine k_tabIn (tgt := 59) hX b3 dX7_count_1 (by decide) (by decide) rfl (by decide) ?_
    refine k_aload_n hX (i := 0) rfl rfl dX7_count_59 ?_
    refine k_get hX io_218 fl_X7_7 rfl dX7_count_60 ?_
    refine k_iconst (v := (nI 1)) hX rfl dX7_count_63 ?_
    refine k_ald hX ia_219 dX7_count_64 (fun v4 => ?_)
    exact k_iret hX dX7_count_65
  refine KF.ite (fun b5 => ?_) (fun b5 => ?_)
  · refine k_tabIn (tgt := 66) hX b5 dX7_count_1 (by decide) (by decide) rfl (by decide) ?_
    refine k_aload_n hX (i := 0) rfl rfl dX7_count_66 ?_
    refine k_callVI (vs := []) hX (fun _ h9 => m_X7_thereMany hX.2.2.2.2.2.2.1  h9) io_218 rfl ml_X7_255 ⟨Nat.le_of_ble_eq_true rfl, Nat.le_of_ble_eq_true rfl⟩ rfl rfl (Nat.le_of_ble_eq_true rfl) dX7_count_67 (fun q6 => ?_)
    exact k_iret hX dX7_count_70
  refine KF.ite (fun b7 => ?_) (fun b7 => ?_)
  · refine k_tabIn (tgt := 71) hX b7 dX7_count_1 (by decide) (by decide) rfl (by decide) ?_
    refine k_aload_n hX (i := 0) rfl rfl dX7_count_71 ?_
    refine k_get hX io_218 fl_X7_7 rfl dX7_count_72 ?_
    refine k_iconst (v := (nI 2)) hX rfl dX7_count_75 ?_
    refine k_ald hX ia_219 dX7_count_76 (fun v8 => ?_)
    exact k_iret hX dX7_count_77
  refine KF.ite (fun b9 => ?_) (fun b9 => ?_)
  · refine k_tabIn (tgt := 78) hX b9 dX7_count_1 (by decide) (by decide) rfl (by decide) ?_
    refine k_aload_n hX (i := 0) rfl rfl dX7_count_78 ?_
    refine k_iconst (v := (nI 2)) hX rfl dX7_count_79 ?_
    refine k_callVI (vs := [.int (nI 2)]) hX (fun _ h9 => m_X7_wishesThat hX.2.2.2.2.2.2.1  h9) io_218 rfl ml_X7_279 ⟨Nat.le_of_ble_eq_true rfl, Nat.le_of_ble_eq_true rfl⟩ rfl rfl (Nat.le_of_ble_eq_true rfl) dX7_count_80 (fun q10 => ?_)
    exact k_iret hX dX7_count_83
  refine KF.ite (fun b11 => ?_) (fun b11 => ?_)
  · refine k_tabIn (tgt := 84) hX b11 dX7_count_1 (by decide) (by decide) rfl (by decide) ?_
    refine k_aload_n hX (i := 0) rfl rfl dX7_count_84 ?_
    refine k_iconst (v := (nI 0)) hX rfl dX7_count_85 ?_
    refine k_callVI (vs := [.int (nI 0)]) hX (fun _ h9 => m_X7_wishesThat hX.2.2.2.2.2.2.1  h9) io_218 rfl ml_X7_279 ⟨Nat.le_of_ble_eq_true rfl, Nat.le_of_ble_eq_true rfl⟩ rfl rfl (Nat.le_of_ble_eq_true rfl) dX7_count_86 (fun q12 => ?_)
    exact k_iret hX dX7_count_89
  refine KF.ite (fun b13 => ?_) (fun b13 => ?_)
  · refine k_tabIn (tgt := 90) hX b13 dX7_count_1 (by decide) (by decide) rfl (by decide) ?_
    refine k_aload_n hX (i := 0) rfl rfl dX7_count_90 ?_
    refine k_iconst (v := (nI 1)) hX rfl dX7_count_91 ?_
    refine k_callVI (vs := [.int (nI 1)]) hX (fun _ h9 => m_X7_wishesThat hX.2.2.2.2.2.2.1  h9) io_218 rfl ml_X7_279 ⟨Nat.le_of_ble_eq_true rfl, Nat.le_of_ble_eq_true rfl⟩ rfl rfl (Nat.le_of_ble_eq_true rfl) dX7_count_92 (fun q14 => ?_)
    exact k_iret hX dX7_count_95
  refine KF.ite (fun b15 => ?_) (fun b15 => ?_)
  · refine k_tabIn (tgt := 96) hX b15 dX7_count_1 (by decide) (by decide) rfl (by decide) ?_
    refine k_aload_n hX (i := 0) rfl rfl dX7_count_96 ?_
    refine k_get hX io_218 fl_X7_65 rfl dX7_count_97 ?_
    exact k_iret hX dX7_count_100
  refine KF.ite (fun b16 => ?_) (fun b16 => ?_)
  · refine k_tabIn (tgt := 101) hX b16 dX7_count_1 (by decide) (by decide) rfl (by decide) ?_
    refine k_aload_n hX (i := 0) rfl rfl dX7_count_101 ?_
    refine k_get hX io_218 fl_X7_200 rfl dX7_count_102 ?_
    exact k_iret hX dX7_count_105
  replace b1 := ne_toInt (k := 0) b1 (by decide)
  replace b3 := ne_toInt (k := 1) b3 (by decide)
  replace b5 := ne_toInt (k := 2) b5 (by decide)
  replace b7 := ne_toInt (k := 3) b7 (by decide)
  replace b9 := ne_toInt (k := 4) b9 (by decide)
  replace b11 := ne_toInt (k := 5) b11 (by decide)
  replace b13 := ne_toInt (k := 6) b13 (by decide)
  replace b15 := ne_toInt (k := 7) b15 (by decide)
  replace b16 := ne_toInt (k := 8) b16 (by decide)
  refine k_tabOut (tgt := 106) hX dX7_count_1 (by omega) (by decide) ?_
  refine k_bipush (v := (-2)) hX rfl dX7_count_106 ?_
  exact k_iret hX dX7_count_108
set_option maxRecDepth 100000 in
theorem m_X7_count {l : Launch} {G : GL} {ad : Nat → Nat} {MM : Mem} (hAd : AdOK G ad) {p1 : Int32} {M : Mem} {r : Rv} (h : f_X7_count p1 M = some r) : Ct PostI l G ad (EM G ad MM) yX7_count cX7_count 2 (some .int) 3 66 [.ref (ad 218), .int p1] M r := ct_of' hAd (by decide +kernel) (List.forall_mem_cons.mpr ⟨rfl, (List.forall_mem_cons.mpr ⟨rfl, (fun _ h => absurd h List.not_mem_nil)⟩)⟩) (Nat.le_of_ble_eq_true rfl) (L := [some (.ref (ad 218)), some (.int p1)]) rfl (fun _ hX => w_X7_count hX) h
