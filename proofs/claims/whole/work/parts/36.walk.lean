set_option maxHeartbeats 4000000 in
set_option maxRecDepth 100000 in
theorem w_X7_load_212 {l : Launch} {G : GL} {ad : Nat → Nat} {MM : Mem} {X : CT} (hX : Cx l { frames := 2, cells := 0, slots := 0, locals := 46 } cX7_load RX7 7 (some .int) G ad X) {k40 : Int32 → Int32 → Int32 → Int32 → Mem → Option Rv} (hk40 : ∀ (x1 : Int32) (x2 : Int32) (x3 : Int32) (x4 : Int32) (M : Mem) {L : List (Option Value)}, lsub [some (.ref (ad 218)), some (.int x1), some (.int x2), some (.int x3), some (.int x4), none, none] L → KF l { frames := 2, cells := 0, slots := 0, locals := 46 } 7 G ad (EM G ad MM) (QP PostI G ad (EM G ad MM)) X (k40 x1 x2 x3 x4 M) L 40 [] M) : ∀ (x1 : Int32) (x2 : Int32) (x3 : Int32) (x4 : Int32) (M : Mem) {L : List (Option Value)}, lsub [some (.ref (ad 218)), some (.int x1), some (.int x2), some (.int x3), some (.int x4), none, none] L → KF l { frames := 2, cells := 0, slots := 0, locals := 46 } 7 G ad (EM G ad MM) (QP PostI G ad (EM G ad MM)) X (f_X7_load_212 k40 x1 x2 x3 x4 M) L 212 [] M := by
  intro x1 x2 x3 x4 M L hL
  unfold f_X7_load_212
  refine KF.locals (lsub_le hL) ?_
  refine k_iinc (v := x4 + nI 1) (L' := [some (.ref (ad 218)), some (.int x1), some (.int x2), some (.int x3), some (.int (x4 + nI 1)), none, none]) hX (i := 4) rfl rfl (by decide) rfl dX7_load_212 ?_
  refine k_goto (tgt := 40) hX dX7_load_215 (by decide) ?_
  exact hk40 x1 x2 x3 (x4 + nI 1) M ⟨rfl, rfl, rfl, rfl, rfl, trivial⟩
set_option maxHeartbeats 4000000 in
set_option maxRecDepth 100000 in
theorem w_X7_load_86 {l : Launch} {G : GL} {ad : Nat → Nat} {MM : Mem} {X : CT} (hX : Cx l { frames := 2, cells := 0, slots := 0, locals := 46 } cX7_load RX7 7 (some .int) G ad X) {k40 : Int32 → Int32 → Int32 → Int32 → Mem → Option Rv} (hk40 : ∀ (x1 : Int32) (x2 : Int32) (x3 : Int32) (x4 : Int32) (M : Mem) {L : List (Option Value)}, lsub [some (.ref (ad 218)), some (.int x1), some (.int x2), some (.int x3), some (.int x4), none, none] L → KF l { frames := 2, cells := 0, slots := 0, locals := 46 } 7 G ad (EM G ad MM) (QP PostI G ad (EM G ad MM)) X (k40 x1 x2 x3 x4 M) L 40 [] M) : ∀ (n : Nat), ∀ (x1 : Int32) (x2 : Int32) (x3 : Int32) (x4 : Int32) (x5 : Int32) (x6 : Int32) (M : Mem) {L : List (Option Value)}, lsub [some (.ref (ad 218)), some (.int x1), some (.int x2), some (.int x3), some (.int x4), some (.int x5), some (.int x6)] L → KF l { frames := 2, cells := 0, slots := 0, locals := 46 } 7 G ad (EM G ad MM) (QP PostI G ad (EM G ad MM)) X (f_X7_load_86 k40 n x1 x2 x3 x4 x5 x6 M) L 86 [] M := by
  intro n
  induction n with
  | zero =>
    intro x1 x2 x3 x4 x5 x6 M L hL
    exact KF.none'
  | succ n ih =>
    intro x1 x2 x3 x4 x5 x6 M L hL
    rw [f_X7_load_86]
    refine KF.locals (lsub_le hL) ?_
    refine k_iload hX rfl dX7_load_86 ?_
    refine k_aload_n hX (i := 0) rfl rfl dX7_load_88 ?_
    refine k_get hX io_218 fl_X7_84 rfl dX7_load_89 ?_
    refine k_icmp_ge (tgt := 139) hX dX7_load_92 (by decide) (fun b1 => ?_) (fun b1 => ?_)
    · refine k_aload_n hX (i := 0) rfl rfl dX7_load_139 ?_
      refine k_get hX io_218 fl_X7_35 rfl dX7_load_140 ?_
      refine k_bipush (v := (nI 16)) hX rfl dX7_load_143 ?_
      refine k_iload hX rfl dX7_load_145 ?_
      refine k_iadd hX dX7_load_147 ?_
      refine k_aload_n hX (i := 0) rfl rfl dX7_load_148 ?_
      refine k_aload_n hX (i := 0) rfl rfl dX7_load_149 ?_
      refine k_get hX io_218 fl_X7_7 rfl dX7_load_150 ?_
      refine k_iload hX rfl dX7_load_153 ?_
      refine k_ald hX ia_219 dX7_load_155 (fun v2 => ?_)
      refine k_callVI (vs := [.int v2]) hX (fun _ h9 => m_X7_makeList hX.2.2.2.2.2.2.1  h9) io_218 rfl ml_X7_118 ⟨Nat.le_of_ble_eq_true rfl, Nat.le_of_ble_eq_true rfl⟩ rfl rfl (Nat.le_of_ble_eq_true rfl) dX7_load_156 (fun q3 => ?_)
      refine k_ast hX locM ia_227 dX7_load_159 (fun M4 => ?_)
      refine k_goto (tgt := 212) hX dX7_load_160 (by decide) ?_
      exact w_X7_load_212 hX hk40 x1 x2 x3 x4 M4 ⟨rfl, rfl, rfl, rfl, rfl, trivial⟩
    refine k_aload_n hX (i := 0) rfl rfl dX7_load_95 ?_
    refine k_get hX io_218 fl_X7_46 rfl dX7_load_96 ?_
    refine k_iload hX rfl dX7_load_99 ?_
    refine k_aload_n hX (i := 0) rfl rfl dX7_load_101 ?_
    refine k_get hX io_218 fl_X7_35 rfl dX7_load_102 ?_
    refine k_aload_n hX (i := 0) rfl rfl dX7_load_105 ?_
    refine k_get hX io_218 fl_X7_7 rfl dX7_load_106 ?_
    refine k_iload_n hX (i := 1) rfl rfl dX7_load_109 ?_
    refine k_iload_n hX (i := 2) rfl rfl dX7_load_110 ?_
    refine k_sipush (v := (nI 362)) hX rfl dX7_load_111 ?_
    refine k_aload_n hX (i := 0) rfl rfl dX7_load_114 ?_
    refine k_get hX io_218 fl_X7_7 rfl dX7_load_115 ?_
    refine k_iload hX rfl dX7_load_118 ?_
    refine k_iconst (v := (nI 1)) hX rfl dX7_load_120 ?_
    refine k_iadd hX dX7_load_121 ?_
    refine k_ald hX ia_219 dX7_load_122 (fun v5 => ?_)
    refine k_iadd hX dX7_load_123 ?_
    refine k_iload hX rfl dX7_load_124 ?_
    refine k_iadd hX dX7_load_126 ?_
    refine k_callSI (vs := [.int x1, .int x2, .int (((nI 362) + v5) + x6)]) hX (fun _ h9 => m_X7_cell hX.2.2.2.2.2.2.1  h9) ml_X7_150 ⟨Nat.le_of_ble_eq_true rfl, Nat.le_of_ble_eq_true rfl⟩ rfl rfl (Nat.le_of_ble_eq_true rfl) dX7_load_127 (fun q6 => ?_)
    refine k_ald hX ia_219 dX7_load_130 (fun v7 => ?_)
    refine k_ald hX ia_227 dX7_load_131 (fun v8 => ?_)
    refine k_ast hX locM ia_230 dX7_load_132 (fun M9 => ?_)
    refine k_iinc (v := x6 + nI 1) (L' := [some (.ref (ad 218)), some (.int x1), some (.int x2), some (.int x3), some (.int x4), some (.int x5), some (.int (x6 + nI 1))]) hX (i := 6) rfl rfl (by decide) rfl dX7_load_133 ?_
    refine k_goto (tgt := 86) hX dX7_load_136 (by decide) ?_
    exact ih x1 x2 x3 x4 x5 (x6 + nI 1) M9 ⟨rfl, rfl, rfl, rfl, rfl, rfl, rfl, trivial⟩
set_option maxHeartbeats 4000000 in
set_option maxRecDepth 100000 in
theorem w_X7_load_40 {l : Launch} {G : GL} {ad : Nat → Nat} {MM : Mem} {X : CT} (hX : Cx l { frames := 2, cells := 0, slots := 0, locals := 46 } cX7_load RX7 7 (some .int) G ad X) : ∀ (n : Nat), ∀ (x1 : Int32) (x2 : Int32) (x3 : Int32) (x4 : Int32) (M : Mem) {L : List (Option Value)}, lsub [some (.ref (ad 218)), some (.int x1), some (.int x2), some (.int x3), some (.int x4), none, none] L → KF l { frames := 2, cells := 0, slots := 0, locals := 46 } 7 G ad (EM G ad MM) (QP PostI G ad (EM G ad MM)) X (f_X7_load_40 n x1 x2 x3 x4 M) L 40 [] M := by
  intro n
  induction n with
  | zero =>
    intro x1 x2 x3 x4 M L hL
    exact KF.none'
  | succ n ih =>
    intro x1 x2 x3 x4 M L hL
    rw [f_X7_load_40]
    refine KF.locals (lsub_le hL) ?_
    refine k_iload hX rfl dX7_load_40 ?_
    refine k_iload_n hX (i := 3) rfl rfl dX7_load_42 ?_
    refine k_icmp_ge (tgt := 218) hX dX7_load_43 (by decide) (fun b1 => ?_) (fun b1 => ?_)
    · refine k_aload_n hX (i := 0) rfl rfl dX7_load_218 ?_
      refine k_get hX io_218 fl_X7_35 rfl dX7_load_219 ?_
      refine k_aload_n hX (i := 0) rfl rfl dX7_load_222 ?_
      refine k_get hX io_218 fl_X7_7 rfl dX7_load_223 ?_
      refine k_iload_n hX (i := 1) rfl rfl dX7_load_226 ?_
      refine k_iload_n hX (i := 2) rfl rfl dX7_load_227 ?_
      refine k_iconst (v := (nI 0)) hX rfl dX7_load_228 ?_
      refine k_callSI (vs := [.int x1, .int x2, .int (nI 0)]) hX (fun _ h9 => m_X7_cell hX.2.2.2.2.2.2.1  h9) ml_X7_150 ⟨Nat.le_of_ble_eq_true rfl, Nat.le_of_ble_eq_true rfl⟩ rfl rfl (Nat.le_of_ble_eq_true rfl) dX7_load_229 (fun q2 => ?_)
      refine k_ald hX ia_219 dX7_load_232 (fun v3 => ?_)
      refine k_ald hX ia_227 dX7_load_233 (fun v4 => ?_)
      exact k_iret hX dX7_load_234
    refine k_iload_n hX (i := 1) rfl rfl dX7_load_46 ?_
    refine k_iload_n hX (i := 2) rfl rfl dX7_load_47 ?_
    refine k_iconst (v := (nI 2)) hX rfl dX7_load_48 ?_
    refine k_iconst (v := (nI 3)) hX rfl dX7_load_49 ?_
    refine k_iload hX rfl dX7_load_50 ?_
    refine k_imul hX dX7_load_52 ?_
    refine k_iadd hX dX7_load_53 ?_
    refine k_callSI (vs := [.int x1, .int x2, .int ((nI 2) + ((nI 3) * x4))]) hX (fun _ h9 => m_X7_cell hX.2.2.2.2.2.2.1  h9) ml_X7_150 ⟨Nat.le_of_ble_eq_true rfl, Nat.le_of_ble_eq_true rfl⟩ rfl rfl (Nat.le_of_ble_eq_true rfl) dX7_load_54 (fun q5 => ?_)
    refine k_istore (L' := [some (.ref (ad 218)), some (.int x1), some (.int x2), some (.int x3), some (.int x4), some (.int q5.1), none]) hX (by decide) rfl dX7_load_57 ?_
    refine k_aload_n hX (i := 0) rfl rfl dX7_load_59 ?_
    refine k_get hX io_218 fl_X7_7 rfl dX7_load_60 ?_
    refine k_iload hX rfl dX7_load_63 ?_
    refine k_ald hX ia_219 dX7_load_65 (fun v6 => ?_)
    refine k_iconst (v := (nI 5)) hX rfl dX7_load_66 ?_
    refine k_icmp_lt (tgt := 163) hX dX7_load_67 (by decide) (fun b7 => ?_) (fun b7 => ?_)
    · refine k_aload_n hX (i := 0) rfl rfl dX7_load_163 ?_
      refine k_get hX io_218 fl_X7_35 rfl dX7_load_164 ?_
      refine k_bipush (v := (nI 16)) hX rfl dX7_load_167 ?_
      refine k_iload hX rfl dX7_load_169 ?_
      refine k_iadd hX dX7_load_171 ?_
      refine k_aload_n hX (i := 0) rfl rfl dX7_load_172 ?_
      refine k_aload_n hX (i := 0) rfl rfl dX7_load_173 ?_
      refine k_get hX io_218 fl_X7_7 rfl dX7_load_174 ?_
      refine k_iload hX rfl dX7_load_177 ?_
      refine k_ald hX ia_219 dX7_load_179 (fun v8 => ?_)
      refine k_aload_n hX (i := 0) rfl rfl dX7_load_180 ?_
      refine k_get hX io_218 fl_X7_35 rfl dX7_load_181 ?_
      refine k_aload_n hX (i := 0) rfl rfl dX7_load_184 ?_
      refine k_get hX io_218 fl_X7_7 rfl dX7_load_185 ?_
      refine k_iload hX rfl dX7_load_188 ?_
      refine k_iconst (v := (nI 1)) hX rfl dX7_load_190 ?_
      refine k_iadd hX dX7_load_191 ?_
      refine k_ald hX ia_219 dX7_load_192 (fun v9 => ?_)
      refine k_ald hX ia_227 dX7_load_193 (fun v10 => ?_)
      refine k_aload_n hX (i := 0) rfl rfl dX7_load_194 ?_
      refine k_get hX io_218 fl_X7_35 rfl dX7_load_195 ?_
      refine k_aload_n hX (i := 0) rfl rfl dX7_load_198 ?_
      refine k_get hX io_218 fl_X7_7 rfl dX7_load_199 ?_
      refine k_iload hX rfl dX7_load_202 ?_
      refine k_iconst (v := (nI 2)) hX rfl dX7_load_204 ?_
      refine k_iadd hX dX7_load_205 ?_
      refine k_ald hX ia_219 dX7_load_206 (fun v11 => ?_)
      refine k_ald hX ia_227 dX7_load_207 (fun v12 => ?_)
      refine k_callVI (vs := [.int v8, .int v10, .int v12]) hX (fun _ h9 => m_X7_make hX.2.2.2.2.2.2.1  h9) io_218 rfl ml_X7_147 ⟨Nat.le_of_ble_eq_true rfl, Nat.le_of_ble_eq_true rfl⟩ rfl rfl (Nat.le_of_ble_eq_true rfl) dX7_load_208 (fun q13 => ?_)
      refine k_ast hX locM ia_227 dX7_load_211 (fun M14 => ?_)
      exact w_X7_load_212 hX ih x1 x2 x3 x4 M14 ⟨rfl, rfl, rfl, rfl, rfl, trivial⟩
    refine k_aload_n hX (i := 0) rfl rfl dX7_load_70 ?_
    refine k_aload_n hX (i := 0) rfl rfl dX7_load_71 ?_
    refine k_get hX io_218 fl_X7_7 rfl dX7_load_72 ?_
    refine k_iload hX rfl dX7_load_75 ?_
    refine k_iconst (v := (nI 2)) hX rfl dX7_load_77 ?_
    refine k_iadd hX dX7_load_78 ?_
    refine k_ald hX ia_219 dX7_load_79 (fun v15 => ?_)
    refine k_puti hX locM io_218 fp_X7_84 (Nat.le_of_ble_eq_true rfl) rfl dX7_load_80 (fun M16 => ?_)
    refine k_iconst (v := (nI 0)) hX rfl dX7_load_83 ?_
    refine k_istore (L' := [some (.ref (ad 218)), some (.int x1), some (.int x2), some (.int x3), some (.int x4), some (.int q5.1), some (.int (nI 0))]) hX (by decide) rfl dX7_load_84 ?_
    exact w_X7_load_86 hX ih fuelN x1 x2 x3 x4 q5.1 (nI 0) M16 ⟨rfl, rfl, rfl, rfl, rfl, rfl, rfl, trivial⟩
set_option maxHeartbeats 4000000 in
set_option maxRecDepth 100000 in
theorem w_X7_load_15 {l : Launch} {G : GL} {ad : Nat → Nat} {MM : Mem} {X : CT} (hX : Cx l { frames := 2, cells := 0, slots := 0, locals := 46 } cX7_load RX7 7 (some .int) G ad X) : ∀ (n : Nat), ∀ (x1 : Int32) (x2 : Int32) (x3 : Int32) (x4 : Int32) (M : Mem) {L : List (Option Value)}, lsub [some (.ref (ad 218)), some (.int x1), some (.int x2), some (.int x3), some (.int x4), none, none] L → KF l { frames := 2, cells := 0, slots := 0, locals := 46 } 7 G ad (EM G ad MM) (QP PostI G ad (EM G ad MM)) X (f_X7_load_15 n x1 x2 x3 x4 M) L 15 [] M := by
  intro n
  induction n with
  | zero =>
    intro x1 x2 x3 x4 M L hL
    exact KF.none'
  | succ n ih =>
    intro x1 x2 x3 x4 M L hL
    rw [f_X7_load_15]
    refine KF.locals (lsub_le hL) ?_
    refine k_iload hX rfl dX7_load_15 ?_
    refine k_bipush (v := (nI 16)) hX rfl dX7_load_17 ?_
    refine k_icmp_ge (tgt := 37) hX dX7_load_19 (by decide) (fun b1 => ?_) (fun b1 => ?_)
    · refine k_iconst (v := (nI 0)) hX rfl dX7_load_37 ?_
      refine k_istore (L' := [some (.ref (ad 218)), some (.int x1), some (.int x2), some (.int x3), some (.int (nI 0)), none, none]) hX (by decide) rfl dX7_load_38 ?_
      exact w_X7_load_40 hX fuelN x1 x2 x3 (nI 0) M ⟨rfl, rfl, rfl, rfl, rfl, trivial⟩
    refine k_aload_n hX (i := 0) rfl rfl dX7_load_22 ?_
    refine k_get hX io_218 fl_X7_35 rfl dX7_load_23 ?_
    refine k_iload hX rfl dX7_load_26 ?_
    refine k_iload hX rfl dX7_load_28 ?_
    refine k_ast hX locM ia_227 dX7_load_30 (fun M2 => ?_)
    refine k_iinc (v := x4 + nI 1) (L' := [some (.ref (ad 218)), some (.int x1), some (.int x2), some (.int x3), some (.int (x4 + nI 1)), none, none]) hX (i := 4) rfl rfl (by decide) rfl dX7_load_31 ?_
    refine k_goto (tgt := 15) hX dX7_load_34 (by decide) ?_
    exact ih x1 x2 x3 (x4 + nI 1) M2 ⟨rfl, rfl, rfl, rfl, rfl, trivial⟩
set_option maxHeartbeats 4000000 in
set_option maxRecDepth 100000 in
theorem w_X7_load {l : Launch} {G : GL} {ad : Nat → Nat} {MM : Mem} {X : CT} (hX : Cx l { frames := 2, cells := 0, slots := 0, locals := 46 } cX7_load RX7 7 (some .int) G ad X) {p1 : Int32} {p2 : Int32} {M : Mem} : KF l { frames := 2, cells := 0, slots := 0, locals := 46 } 7 G ad (EM G ad MM) (QP PostI G ad (EM G ad MM)) X (f_X7_load p1 p2 M) [some (.ref (ad 218)), some (.int p1), some (.int p2), none, none, none, none] 0 [] M := by
  unfold f_X7_load
  refine k_aload_n hX (i := 0) rfl rfl dX7_load_0 ?_
  refine k_get hX io_218 fl_X7_7 rfl dX7_load_1 ?_
  refine k_iload_n hX (i := 1) rfl rfl dX7_load_4 ?_
  refine k_iload_n hX (i := 2) rfl rfl dX7_load_5 ?_
  refine k_iconst (v := (nI 1)) hX rfl dX7_load_6 ?_
  refine k_callSI (vs := [.int p1, .int p2, .int (nI 1)]) hX (fun _ h9 => m_X7_cell hX.2.2.2.2.2.2.1  h9) ml_X7_150 ⟨Nat.le_of_ble_eq_true rfl, Nat.le_of_ble_eq_true rfl⟩ rfl rfl (Nat.le_of_ble_eq_true rfl) dX7_load_7 (fun q1 => ?_)
  refine k_ald hX ia_219 dX7_load_10 (fun v2 => ?_)
  refine k_istore_n (L' := [some (.ref (ad 218)), some (.int p1), some (.int p2), some (.int v2), none, none, none]) hX (i := 3) rfl (by decide) rfl dX7_load_11 ?_
  refine k_iconst (v := (nI 0)) hX rfl dX7_load_12 ?_
  refine k_istore (L' := [some (.ref (ad 218)), some (.int p1), some (.int p2), some (.int v2), some (.int (nI 0)), none, none]) hX (by decide) rfl dX7_load_13 ?_
  exact w_X7_load_15 hX fuelN p1 p2 v2 (nI 0) q1.2 ⟨rfl, rfl, rfl, rfl, rfl, trivial⟩
set_option maxRecDepth 100000 in
theorem m_X7_load {l : Launch} {G : GL} {ad : Nat → Nat} {MM : Mem} (hAd : AdOK G ad) {p1 : Int32} {p2 : Int32} {M : Mem} {r : Rv} (h : f_X7_load p1 p2 M = some r) : Ct PostI l G ad (EM G ad MM) yX7_load cX7_load 7 (some .int) 2 46 [.ref (ad 218), .int p1, .int p2] M r := ct_of' hAd (by decide +kernel) (List.forall_mem_cons.mpr ⟨rfl, (List.forall_mem_cons.mpr ⟨rfl, (List.forall_mem_cons.mpr ⟨rfl, (fun _ h => absurd h List.not_mem_nil)⟩)⟩)⟩) (Nat.le_of_ble_eq_true rfl) (L := [some (.ref (ad 218)), some (.int p1), some (.int p2), none, none, none, none]) rfl (fun _ hX => w_X7_load hX) h
set_option maxHeartbeats 4000000 in
set_option maxRecDepth 100000 in
theorem w_X7_loadAlone {l : Launch} {G : GL} {ad : Nat → Nat} {MM : Mem} {X : CT} (hX : Cx l { frames := 3, cells := 0, slots := 0, locals := 72 } cX7_loadAlone RX7 3 (some .int) G ad X) {p1 : Int32} {p2 : Int32} {M : Mem} : KF l { frames := 3, cells := 0, slots := 0, locals := 72 } 3 G ad (EM G ad MM) (QP PostI G ad (EM G ad MM)) X (f_X7_loadAlone p1 p2 M) [some (.ref (ad 218)), some (.int p1), some (.int p2)] 0 [] M := by
  unfold f_X7_loadAlone
  refine k_aload_n hX (i := 0) rfl rfl dX7_loadAlone_0 ?_
  refine k_callVV (vs := []) hX (fun _ h9 => m_X7_empty hX.2.2.2.2.2.2.1  h9) io_218 rfl ml_X7_62 ⟨Nat.le_of_ble_eq_true rfl, Nat.le_of_ble_eq_true rfl⟩ rfl rfl (Nat.le_of_ble_eq_true rfl) dX7_loadAlone_1 (fun q1 => ?_)
  refine k_aload_n hX (i := 0) rfl rfl dX7_loadAlone_4 ?_
  refine k_iload_n hX (i := 1) rfl rfl dX7_loadAlone_5 ?_
  refine k_iload_n hX (i := 2) rfl rfl dX7_loadAlone_6 ?_
  refine k_callVI (vs := [.int p1, .int p2]) hX (fun _ h9 => m_X7_load hX.2.2.2.2.2.2.1  h9) io_218 rfl ml_X7_153 ⟨Nat.le_of_ble_eq_true rfl, Nat.le_of_ble_eq_true rfl⟩ rfl rfl (Nat.le_of_ble_eq_true rfl) dX7_loadAlone_7 (fun q2 => ?_)
  exact k_iret hX dX7_loadAlone_10
set_option maxRecDepth 100000 in
theorem m_X7_loadAlone {l : Launch} {G : GL} {ad : Nat → Nat} {MM : Mem} (hAd : AdOK G ad) {p1 : Int32} {p2 : Int32} {M : Mem} {r : Rv} (h : f_X7_loadAlone p1 p2 M = some r) : Ct PostI l G ad (EM G ad MM) yX7_loadAlone cX7_loadAlone 3 (some .int) 3 72 [.ref (ad 218), .int p1, .int p2] M r := ct_of' hAd (by decide +kernel) (List.forall_mem_cons.mpr ⟨rfl, (List.forall_mem_cons.mpr ⟨rfl, (List.forall_mem_cons.mpr ⟨rfl, (fun _ h => absurd h List.not_mem_nil)⟩)⟩)⟩) (Nat.le_of_ble_eq_true rfl) (L := [some (.ref (ad 218)), some (.int p1), some (.int p2)]) rfl (fun _ hX => w_X7_loadAlone hX) h
set_option maxHeartbeats 4000000 in
set_option maxRecDepth 100000 in
theorem w_X7_formOf {l : Launch} {G : GL} {ad : Nat → Nat} {MM : Mem} {X : CT} (hX : Cx l { frames := 1, cells := 0, slots := 0, locals := 22 } cX7_formOf RX7 3 (some .int) G ad X) {p1 : Int32} {p2 : Int32} {M : Mem} : KF l { frames := 1, cells := 0, slots := 0, locals := 22 } 3 G ad (EM G ad MM) (QP PostI G ad (EM G ad MM)) X (f_X7_formOf p1 p2 M) [some (.ref (ad 218)), some (.int p1), some (.int p2)] 0 [] M := by
  unfold f_X7_formOf
  refine k_aload_n hX (i := 0) rfl rfl dX7_formOf_0 ?_
  refine k_get hX io_218 fl_X7_7 rfl dX7_formOf_1 ?_
  refine k_iload_n hX (i := 1) rfl rfl dX7_formOf_4 ?_
  refine k_iload_n hX (i := 2) rfl rfl dX7_formOf_5 ?_
  refine k_iconst (v := (nI 0)) hX rfl dX7_formOf_6 ?_
  refine k_callSI (vs := [.int p1, .int p2, .int (nI 0)]) hX (fun _ h9 => m_X7_cell hX.2.2.2.2.2.2.1  h9) ml_X7_150 ⟨Nat.le_of_ble_eq_true rfl, Nat.le_of_ble_eq_true rfl⟩ rfl rfl (Nat.le_of_ble_eq_true rfl) dX7_formOf_7 (fun q1 => ?_)
  refine k_ald hX ia_219 dX7_formOf_10 (fun v2 => ?_)
  exact k_iret hX dX7_formOf_11
set_option maxRecDepth 100000 in
theorem m_X7_formOf {l : Launch} {G : GL} {ad : Nat → Nat} {MM : Mem} (hAd : AdOK G ad) {p1 : Int32} {p2 : Int32} {M : Mem} {r : Rv} (h : f_X7_formOf p1 p2 M = some r) : Ct PostI l G ad (EM G ad MM) yX7_formOf cX7_formOf 3 (some .int) 1 22 [.ref (ad 218), .int p1, .int p2] M r := ct_of' hAd (by decide +kernel) (List.forall_mem_cons.mpr ⟨rfl, (List.forall_mem_cons.mpr ⟨rfl, (List.forall_mem_cons.mpr ⟨rfl, (fun _ h => absurd h List.not_mem_nil)⟩)⟩)⟩) (Nat.le_of_ble_eq_true rfl) (L := [some (.ref (ad 218)), some (.int p1), some (.int p2)]) rfl (fun _ hX => w_X7_formOf hX) h
set_option maxHeartbeats 4000000 in
set_option maxRecDepth 100000 in
theorem w_X7_partsThat_41 {l : Launch} {G : GL} {ad : Nat → Nat} {MM : Mem} {X : CT} (hX : Cx l { frames := 2, cells := 0, slots := 0, locals := 44 } cX7_partsThat RX7 5 (some .int) G ad X) {k5 : Int32 → Int32 → Int32 → Int32 → Mem → Option Rv} (hk5 : ∀ (x1 : Int32) (x2 : Int32) (x3 : Int32) (x4 : Int32) (M : Mem) {L : List (Option Value)}, lsub [some (.ref (ad 218)), some (.int x1), some (.int x2), some (.int x3), some (.int x4)] L → KF l { frames := 2, cells := 0, slots := 0, locals := 44 } 5 G ad (EM G ad MM) (QP PostI G ad (EM G ad MM)) X (k5 x1 x2 x3 x4 M) L 5 [] M) : ∀ (x1 : Int32) (x2 : Int32) (x4 : Int32) (s0 : Int32) (s1 : Int32) (M : Mem) {L : List (Option Value)}, lsub [some (.ref (ad 218)), some (.int x1), some (.int x2), none, some (.int x4)] L → KF l { frames := 2, cells := 0, slots := 0, locals := 44 } 5 G ad (EM G ad MM) (QP PostI G ad (EM G ad MM)) X (f_X7_partsThat_41 k5 x1 x2 x4 s0 s1 M) L 41 [.int s0, .int s1] M := by
  intro x1 x2 x4 s0 s1 M L hL
  unfold f_X7_partsThat_41
  refine KF.locals (lsub_le hL) ?_
  refine k_ior hX dX7_partsThat_41 ?_
  refine k_istore_n (L' := [some (.ref (ad 218)), some (.int x1), some (.int x2), some (.int (s1 ||| s0)), some (.int x4)]) hX (i := 3) rfl (by decide) rfl dX7_partsThat_42 ?_
  refine k_iinc (v := x4 + nI 1) (L' := [some (.ref (ad 218)), some (.int x1), some (.int x2), some (.int (s1 ||| s0)), some (.int (x4 + nI 1))]) hX (i := 4) rfl rfl (by decide) rfl dX7_partsThat_43 ?_
  refine k_goto (tgt := 5) hX dX7_partsThat_46 (by decide) ?_
  exact hk5 x1 x2 (s1 ||| s0) (x4 + nI 1) M ⟨rfl, rfl, rfl, rfl, rfl, trivial⟩
set_option maxHeartbeats 4000000 in
set_option maxRecDepth 100000 in
theorem w_X7_partsThat_5 {l : Launch} {G : GL} {ad : Nat → Nat} {MM : Mem} {X : CT} (hX : Cx l { frames := 2, cells := 0, slots := 0, locals := 44 } cX7_partsThat RX7 5 (some .int) G ad X) : ∀ (n : Nat), ∀ (x1 : Int32) (x2 : Int32) (x3 : Int32) (x4 : Int32) (M : Mem) {L : List (Option Value)}, lsub [some (.ref (ad 218)), some (.int x1), some (.int x2), some (.int x3), some (.int x4)] L → KF l { frames := 2, cells := 0, slots := 0, locals := 44 } 5 G ad (EM G ad MM) (QP PostI G ad (EM G ad MM)) X (f_X7_partsThat_5 n x1 x2 x3 x4 M) L 5 [] M := by
  intro n
  induction n with
  | zero =>
    intro x1 x2 x3 x4 M L hL
    exact KF.none'
  | succ n ih =>
    intro x1 x2 x3 x4 M L hL
    rw [f_X7_partsThat_5]
    refine KF.locals (lsub_le hL) ?_
    refine k_iload hX rfl dX7_partsThat_5 ?_
    refine k_aload_n hX (i := 0) rfl rfl dX7_partsThat_7 ?_
    refine k_get hX io_218 fl_X7_7 rfl dX7_partsThat_8 ?_
    refine k_iload_n hX (i := 1) rfl rfl dX7_partsThat_11 ?_
    refine k_callSI (vs := [.int x1]) hX (fun _ h9 => m_X7_w hX.2.2.2.2.2.2.1  h9) ml_X7_74 ⟨Nat.le_of_ble_eq_true rfl, Nat.le_of_ble_eq_true rfl⟩ rfl rfl (Nat.le_of_ble_eq_true rfl) dX7_partsThat_12 (fun q1 => ?_)
    refine k_iconst (v := (nI 5)) hX rfl dX7_partsThat_15 ?_
    refine k_iadd hX dX7_partsThat_16 ?_
    refine k_ald hX ia_219 dX7_partsThat_17 (fun v2 => ?_)
    refine k_icmp_ge (tgt := 49) hX dX7_partsThat_18 (by decide) (fun b3 => ?_) (fun b3 => ?_)
    · refine k_iload_n hX (i := 3) rfl rfl dX7_partsThat_49 ?_
      exact k_iret hX dX7_partsThat_50
    refine k_iload_n hX (i := 3) rfl rfl dX7_partsThat_21 ?_
    refine k_aload_n hX (i := 0) rfl rfl dX7_partsThat_22 ?_
    refine k_iload_n hX (i := 1) rfl rfl dX7_partsThat_23 ?_
    refine k_iload hX rfl dX7_partsThat_24 ?_
    refine k_callVI (vs := [.int x1, .int x4]) hX (fun _ h9 => m_X7_formOf hX.2.2.2.2.2.2.1  h9) io_218 rfl ml_X7_156 ⟨Nat.le_of_ble_eq_true rfl, Nat.le_of_ble_eq_true rfl⟩ rfl rfl (Nat.le_of_ble_eq_true rfl) dX7_partsThat_26 (fun q4 => ?_)
    refine k_iload_n hX (i := 2) rfl rfl dX7_partsThat_29 ?_
    refine k_icmp_ne (tgt := 40) hX dX7_partsThat_30 (by decide) (fun b5 => ?_) (fun b5 => ?_)
    · refine k_iconst (v := (nI 0)) hX rfl dX7_partsThat_40 ?_
      exact w_X7_partsThat_41 hX ih x1 x2 x4 (nI 0) x3 q4.2 ⟨rfl, rfl, rfl, rfl, trivial⟩
    refine k_iconst (v := (nI 1)) hX rfl dX7_partsThat_33 ?_
    refine k_iload hX rfl dX7_partsThat_34 ?_
    refine k_ishl hX dX7_partsThat_36 ?_
    refine k_goto (tgt := 41) hX dX7_partsThat_37 (by decide) ?_
    exact w_X7_partsThat_41 hX ih x1 x2 x4 ((nI 1) <<< (x4 &&& nI 31)) x3 q4.2 ⟨rfl, rfl, rfl, rfl, trivial⟩
set_option maxHeartbeats 4000000 in
set_option maxRecDepth 100000 in
theorem w_X7_partsThat {l : Launch} {G : GL} {ad : Nat → Nat} {MM : Mem} {X : CT} (hX : Cx l { frames := 2, cells := 0, slots := 0, locals := 44 } cX7_partsThat RX7 5 (some .int) G ad X) {p1 : Int32} {p2 : Int32} {M : Mem} : KF l { frames := 2, cells := 0, slots := 0, locals := 44 } 5 G ad (EM G ad MM) (QP PostI G ad (EM G ad MM)) X (f_X7_partsThat p1 p2 M) [some (.ref (ad 218)), some (.int p1), some (.int p2), none, none] 0 [] M := by
  unfold f_X7_partsThat
  refine k_iconst (v := (nI 0)) hX rfl dX7_partsThat_0 ?_
  refine k_istore_n (L' := [some (.ref (ad 218)), some (.int p1), some (.int p2), some (.int (nI 0)), none]) hX (i := 3) rfl (by decide) rfl dX7_partsThat_1 ?_
  refine k_iconst (v := (nI 0)) hX rfl dX7_partsThat_2 ?_
  refine k_istore (L' := [some (.ref (ad 218)), some (.int p1), some (.int p2), some (.int (nI 0)), some (.int (nI 0))]) hX (by decide) rfl dX7_partsThat_3 ?_
  exact w_X7_partsThat_5 hX fuelN p1 p2 (nI 0) (nI 0) M ⟨rfl, rfl, rfl, rfl, rfl, trivial⟩
set_option maxRecDepth 100000 in
theorem m_X7_partsThat {l : Launch} {G : GL} {ad : Nat → Nat} {MM : Mem} (hAd : AdOK G ad) {p1 : Int32} {p2 : Int32} {M : Mem} {r : Rv} (h : f_X7_partsThat p1 p2 M = some r) : Ct PostI l G ad (EM G ad MM) yX7_partsThat cX7_partsThat 5 (some .int) 2 44 [.ref (ad 218), .int p1, .int p2] M r := ct_of' hAd (by decide +kernel) (List.forall_mem_cons.mpr ⟨rfl, (List.forall_mem_cons.mpr ⟨rfl, (List.forall_mem_cons.mpr ⟨rfl, (fun _ h => absurd h List.not_mem_nil)⟩)⟩)⟩) (Nat.le_of_ble_eq_true rfl) (L := [some (.ref (ad 218)), some (.int p1), some (.int p2), none, none]) rfl (fun _ hX => w_X7_partsThat hX) h
set_option maxHeartbeats 4000000 in
set_option maxRecDepth 100000 in
theorem w_X7_verdictBy_44 {l : Launch} {G : GL} {ad : Nat → Nat} {MM : Mem} {X : CT} (hX : Cx l { frames := 3, cells := 0, slots := 0, locals := 68 } cX7_verdictBy RX7 3 (some .int) G ad X) : ∀ (s0 : Int32) (M : Mem) {L : List (Option Value)}, lsub [none, none, none] L → KF l { frames := 3, cells := 0, slots := 0, locals := 68 } 3 G ad (EM G ad MM) (QP PostI G ad (EM G ad MM)) X (f_X7_verdictBy_44 s0 M) L 44 [.int s0] M := by
  intro s0 M L hL
  unfold f_X7_verdictBy_44
  refine KF.locals (lsub_le hL) ?_
  exact k_iret hX dX7_verdictBy_44
set_option maxHeartbeats 4000000 in
set_option maxRecDepth 100000 in
theorem w_X7_verdictBy {l : Launch} {G : GL} {ad : Nat → Nat} {MM : Mem} {X : CT} (hX : Cx l { frames := 3, cells := 0, slots := 0, locals := 68 } cX7_verdictBy RX7 3 (some .int) G ad X) {p1 : Int32} {M : Mem} : KF l { frames := 3, cells := 0, slots := 0, locals := 68 } 3 G ad (EM G ad MM) (QP PostI G ad (EM G ad MM)) X (f_X7_verdictBy p1 M) [some (.ref (ad 218)), some (.int p1), none] 0 [] M := by
  unfold f_X7_verdictBy
  refine k_iconst (v := (nI 1)) hX rfl dX7_verdictBy_0 ?_
  refine k_aload_n hX (i := 0) rfl rfl dX7_verdictBy_1 ?_
  refine k_get hX io_218 fl_X7_7 rfl dX7_verdictBy_2 ?_
  refine k_iload_n hX (i := 1) rfl rfl dX7_verdictBy_5 ?_
  refine k_callSI (vs := [.int p1]) hX (fun _ h9 => m_X7_w hX.2.2.2.2.2.2.1  h9) ml_X7_74 ⟨Nat.le_of_ble_eq_true rfl, Nat.le_of_ble_eq_true rfl⟩ rfl rfl (Nat.le_of_ble_eq_true rfl) dX7_verdictBy_6 (fun q1 => ?_)
  refine k_iconst (v := (nI 5)) hX rfl dX7_verdictBy_9 ?_
  refine k_iadd hX dX7_verdictBy_10 ?_
  refine k_ald hX ia_219 dX7_verdictBy_11 (fun v2 => ?_)
  refine k_ishl hX dX7_verdictBy_12 ?_
  refine k_iconst (v := (nI 1)) hX rfl dX7_verdictBy_13 ?_
  refine k_isub hX dX7_verdictBy_14 ?_
  refine k_istore_n (L' := [some (.ref (ad 218)), some (.int p1), some (.int (((nI 1) <<< (v2 &&& nI 31)) - (nI 1)))]) hX (i := 2) rfl (by decide) rfl dX7_verdictBy_15 ?_
  refine k_aload_n hX (i := 0) rfl rfl dX7_verdictBy_16 ?_
  refine k_iload_n hX (i := 1) rfl rfl dX7_verdictBy_17 ?_
  refine k_iconst (v := (nI 0)) hX rfl dX7_verdictBy_18 ?_
  refine k_callVI (vs := [.int p1, .int (nI 0)]) hX (fun _ h9 => m_X7_partsThat hX.2.2.2.2.2.2.1  h9) io_218 rfl ml_X7_159 ⟨Nat.le_of_ble_eq_true rfl, Nat.le_of_ble_eq_true rfl⟩ rfl rfl (Nat.le_of_ble_eq_true rfl) dX7_verdictBy_19 (fun q3 => ?_)
  refine k_if_eq (tgt := 29) hX dX7_verdictBy_22 (by decide) (fun b4 => ?_) (fun b4 => ?_)
  · refine k_aload_n hX (i := 0) rfl rfl dX7_verdictBy_29 ?_
    refine k_iload_n hX (i := 1) rfl rfl dX7_verdictBy_30 ?_
    refine k_iconst (v := (nI 1)) hX rfl dX7_verdictBy_31 ?_
    refine k_callVI (vs := [.int p1, .int (nI 1)]) hX (fun _ h9 => m_X7_partsThat hX.2.2.2.2.2.2.1  h9) io_218 rfl ml_X7_159 ⟨Nat.le_of_ble_eq_true rfl, Nat.le_of_ble_eq_true rfl⟩ rfl rfl (Nat.le_of_ble_eq_true rfl) dX7_verdictBy_32 (fun q5 => ?_)
    refine k_iload_n hX (i := 2) rfl rfl dX7_verdictBy_35 ?_
    refine k_icmp_ne (tgt := 43) hX dX7_verdictBy_36 (by decide) (fun b6 => ?_) (fun b6 => ?_)
    · refine k_iconst (v := (nI 2)) hX rfl dX7_verdictBy_43 ?_
      exact w_X7_verdictBy_44 hX (nI 2) q5.2 trivial
    refine k_iconst (v := (nI 1)) hX rfl dX7_verdictBy_39 ?_
    refine k_goto (tgt := 44) hX dX7_verdictBy_40 (by decide) ?_
    exact w_X7_verdictBy_44 hX (nI 1) q5.2 trivial
  refine k_iconst (v := (nI 0)) hX rfl dX7_verdictBy_25 ?_
  refine k_goto (tgt := 44) hX dX7_verdictBy_26 (by decide) ?_
  exact w_X7_verdictBy_44 hX (nI 0) q3.2 trivial
set_option maxRecDepth 100000 in
theorem m_X7_verdictBy {l : Launch} {G : GL} {ad : Nat → Nat} {MM : Mem} (hAd : AdOK G ad) {p1 : Int32} {M : Mem} {r : Rv} (h : f_X7_verdictBy p1 M = some r) : Ct PostI l G ad (EM G ad MM) yX7_verdictBy cX7_verdictBy 3 (some .int) 3 68 [.ref (ad 218), .int p1] M r := ct_of' hAd (by decide +kernel) (List.forall_mem_cons.mpr ⟨rfl, (List.forall_mem_cons.mpr ⟨rfl, (fun _ h => absurd h List.not_mem_nil)⟩)⟩) (Nat.le_of_ble_eq_true rfl) (L := [some (.ref (ad 218)), some (.int p1), none]) rfl (fun _ hX => w_X7_verdictBy hX) h
set_option maxHeartbeats 4000000 in
set_option maxRecDepth 100000 in
theorem w_X7_wouldBe_84 {l : Launch} {G : GL} {ad : Nat → Nat} {MM : Mem} {X : CT} (hX : Cx l { frames := 8, cells := 0, slots := 0, locals := 186 } cX7_wouldBe RX7 7 (some .int) G ad X) {k23 : Int32 → Int32 → Int32 → Int32 → Int32 → Mem → Option Rv} (hk23 : ∀ (x1 : Int32) (x2 : Int32) (x3 : Int32) (x4 : Int32) (x5 : Int32) (M : Mem) {L : List (Option Value)}, lsub [some (.ref (ad 218)), some (.int x1), some (.int x2), some (.int x3), some (.int x4), some (.int x5), none] L → KF l { frames := 8, cells := 0, slots := 0, locals := 186 } 7 G ad (EM G ad MM) (QP PostI G ad (EM G ad MM)) X (k23 x1 x2 x3 x4 x5 M) L 23 [] M) : ∀ (x1 : Int32) (x2 : Int32) (x3 : Int32) (x5 : Int32) (s0 : Int32) (M : Mem) {L : List (Option Value)}, lsub [some (.ref (ad 218)), some (.int x1), some (.int x2), some (.int x3), none, some (.int x5), none] L → KF l { frames := 8, cells := 0, slots := 0, locals := 186 } 7 G ad (EM G ad MM) (QP PostI G ad (EM G ad MM)) X (f_X7_wouldBe_84 k23 x1 x2 x3 x5 s0 M) L 84 [.int s0] M := by
  intro x1 x2 x3 x5 s0 M L hL
  unfold f_X7_wouldBe_84
  refine KF.locals (lsub_le hL) ?_
  refine k_istore (L' := [some (.ref (ad 218)), some (.int x1), some (.int x2), some (.int x3), some (.int s0), some (.int x5), none]) hX (by decide) rfl dX7_wouldBe_84 ?_
  refine k_iinc (v := x5 + nI 1) (L' := [some (.ref (ad 218)), some (.int x1), some (.int x2), some (.int x3), some (.int s0), some (.int (x5 + nI 1)), none]) hX (i := 5) rfl rfl (by decide) rfl dX7_wouldBe_86 ?_
  refine k_goto (tgt := 23) hX dX7_wouldBe_89 (by decide) ?_
  exact hk23 x1 x2 x3 s0 (x5 + nI 1) M ⟨rfl, rfl, rfl, rfl, rfl, rfl, trivial⟩
set_option maxHeartbeats 4000000 in
set_option maxRecDepth 100000 in
theorem w_X7_wouldBe_83 {l : Launch} {G : GL} {ad : Nat → Nat} {MM : Mem} {X : CT} (hX : Cx l { frames := 8, cells := 0, slots := 0, locals := 186 } cX7_wouldBe RX7 7 (some .int) G ad X) {k23 : Int32 → Int32 → Int32 → Int32 → Int32 → Mem → Option Rv} (hk23 : ∀ (x1 : Int32) (x2 : Int32) (x3 : Int32) (x4 : Int32) (x5 : Int32) (M : Mem) {L : List (Option Value)}, lsub [some (.ref (ad 218)), some (.int x1), some (.int x2), some (.int x3), some (.int x4), some (.int x5), none] L → KF l { frames := 8, cells := 0, slots := 0, locals := 186 } 7 G ad (EM G ad MM) (QP PostI G ad (EM G ad MM)) X (k23 x1 x2 x3 x4 x5 M) L 23 [] M) : ∀ (x1 : Int32) (x2 : Int32) (x3 : Int32) (x5 : Int32) (M : Mem) {L : List (Option Value)}, lsub [some (.ref (ad 218)), some (.int x1), some (.int x2), some (.int x3), none, some (.int x5), none] L → KF l { frames := 8, cells := 0, slots := 0, locals := 186 } 7 G ad (EM G ad MM) (QP PostI G ad (EM G ad MM)) X (f_X7_wouldBe_83 k23 x1 x2 x3 x5 M) L 83 [] M := by
  intro x1 x2 x3 x5 M L hL
  unfold f_X7_wouldBe_83
  refine KF.locals (lsub_le hL) ?_
  refine k_iconst (v := (nI 0)) hX rfl dX7_wouldBe_83 ?_
  exact w_X7_wouldBe_84 hX hk23 x1 x2 x3 x5 (nI 0) M ⟨rfl, rfl, rfl, rfl, rfl, trivial⟩
set_option maxHeartbeats 4000000 in
set_option maxRecDepth 100000 in
theorem w_X7_wouldBe_68 {l : Launch} {G : GL} {ad : Nat → Nat} {MM : Mem} {X : CT} (hX : Cx l { frames := 8, cells := 0, slots := 0, locals := 186 } cX7_wouldBe RX7 7 (some .int) G ad X) {k23 : Int32 → Int32 → Int32 → Int32 → Int32 → Mem → Option Rv} (hk23 : ∀ (x1 : Int32) (x2 : Int32) (x3 : Int32) (x4 : Int32) (x5 : Int32) (M : Mem) {L : List (Option Value)}, lsub [some (.ref (ad 218)), some (.int x1), some (.int x2), some (.int x3), some (.int x4), some (.int x5), none] L → KF l { frames := 8, cells := 0, slots := 0, locals := 186 } 7 G ad (EM G ad MM) (QP PostI G ad (EM G ad MM)) X (k23 x1 x2 x3 x4 x5 M) L 23 [] M) : ∀ (x1 : Int32) (x2 : Int32) (x4 : Int32) (x5 : Int32) (x6 : Int32) (s0 : Int32) (M : Mem) {L : List (Option Value)}, lsub [some (.ref (ad 218)), some (.int x1), some (.int x2), none, some (.int x4), some (.int x5), some (.int x6)] L → KF l { frames := 8, cells := 0, slots := 0, locals := 186 } 7 G ad (EM G ad MM) (QP PostI G ad (EM G ad MM)) X (f_X7_wouldBe_68 k23 x1 x2 x4 x5 x6 s0 M) L 68 [.int s0] M := by
  intro x1 x2 x4 x5 x6 s0 M L hL
  unfold f_X7_wouldBe_68
  refine KF.locals (lsub_le hL) ?_
  refine k_istore_n (L' := [some (.ref (ad 218)), some (.int x1), some (.int x2), some (.int s0), some (.int x4), some (.int x5), some (.int x6)]) hX (i := 3) rfl (by decide) rfl dX7_wouldBe_68 ?_
  refine k_iload hX rfl dX7_wouldBe_69 ?_
  refine k_if_eq (tgt := 83) hX dX7_wouldBe_71 (by decide) (fun b1 => ?_) (fun b1 => ?_)
  · exact w_X7_wouldBe_83 hX hk23 x1 x2 s0 x5 M ⟨rfl, rfl, rfl, rfl, rfl, trivial⟩
  refine k_iload hX rfl dX7_wouldBe_74 ?_
  refine k_if_eq (tgt := 83) hX dX7_wouldBe_76 (by decide) (fun b2 => ?_) (fun b2 => ?_)
  · exact w_X7_wouldBe_83 hX hk23 x1 x2 s0 x5 M ⟨rfl, rfl, rfl, rfl, rfl, trivial⟩
  refine k_iconst (v := (nI 1)) hX rfl dX7_wouldBe_79 ?_
  refine k_goto (tgt := 84) hX dX7_wouldBe_80 (by decide) ?_
  exact w_X7_wouldBe_84 hX hk23 x1 x2 s0 x5 (nI 1) M ⟨rfl, rfl, rfl, rfl, rfl, trivial⟩
set_option maxHeartbeats 4000000 in
set_option maxRecDepth 100000 in
theorem w_X7_wouldBe_67 {l : Launch} {G : GL} {ad : Nat → Nat} {MM : Mem} {X : CT} (hX : Cx l { frames := 8, cells := 0, slots := 0, locals := 186 } cX7_wouldBe RX7 7 (some .int) G ad X) {k23 : Int32 → Int32 → Int32 → Int32 → Int32 → Mem → Option Rv} (hk23 : ∀ (x1 : Int32) (x2 : Int32) (x3 : Int32) (x4 : Int32) (x5 : Int32) (M : Mem) {L : List (Option Value)}, lsub [some (.ref (ad 218)), some (.int x1), some (.int x2), some (.int x3), some (.int x4), some (.int x5), none] L → KF l { frames := 8, cells := 0, slots := 0, locals := 186 } 7 G ad (EM G ad MM) (QP PostI G ad (EM G ad MM)) X (k23 x1 x2 x3 x4 x5 M) L 23 [] M) : ∀ (x1 : Int32) (x2 : Int32) (x4 : Int32) (x5 : Int32) (x6 : Int32) (M : Mem) {L : List (Option Value)}, lsub [some (.ref (ad 218)), some (.int x1), some (.int x2), none, some (.int x4), some (.int x5), some (.int x6)] L → KF l { frames := 8, cells := 0, slots := 0, locals := 186 } 7 G ad (EM G ad MM) (QP PostI G ad (EM G ad MM)) X (f_X7_wouldBe_67 k23 x1 x2 x4 x5 x6 M) L 67 [] M := by
  intro x1 x2 x4 x5 x6 M L hL
  unfold f_X7_wouldBe_67
  refine KF.locals (lsub_le hL) ?_
  refine k_iconst (v := (nI 0)) hX rfl dX7_wouldBe_67 ?_
  exact w_X7_wouldBe_68 hX hk23 x1 x2 x4 x5 x6 (nI 0) M ⟨rfl, rfl, rfl, rfl, rfl, rfl, trivial⟩
set_option maxHeartbeats 4000000 in
set_option maxRecDepth 100000 in
theorem w_X7_wouldBe_110 {l : Launch} {G : GL} {ad : Nat → Nat} {MM : Mem} {X : CT} (hX : Cx l { frames := 8, cells := 0, slots := 0, locals := 186 } cX7_wouldBe RX7 7 (some .int) G ad X) : ∀ (s0 : Int32) (M : Mem) {L : List (Option Value)}, lsub [none, none, none, none, none, none, none] L → KF l { frames := 8, cells := 0, slots := 0, locals := 186 } 7 G ad (EM G ad MM) (QP PostI G ad (EM G ad MM)) X (f_X7_wouldBe_110 s0 M) L 110 [.int s0] M := by
  intro s0 M L hL
  unfold f_X7_wouldBe_110
  refine KF.locals (lsub_le hL) ?_
  exact k_iret hX dX7_wouldBe_110
set_option maxHeartbeats 4000000 in
set_option maxRecDepth 100000 in
theorem w_X7_wouldBe_23 {l : Launch} {G : GL} {ad : Nat → Nat} {MM : Mem} {X : CT} (hX : Cx l { frames := 8, cells := 0, slots := 0, locals := 186 } cX7_wouldBe RX7 7 (some .int) G ad X) : ∀ (n : Nat), ∀ (x1 : Int32) (x2 : Int32) (x3 : Int32) (x4 : Int32) (x5 : Int32) (M : Mem) {L : List (Option Value)}, lsub [some (.ref (ad 218)), some (.int x1), some (.int x2), some (.int x3), some (.int x4), some (.int x5), none] L → KF l { frames := 8, cells := 0, slots := 0, locals := 186 } 7 G ad (EM G ad MM) (QP PostI G ad (EM G ad MM)) X (f_X7_wouldBe_23 n x1 x2 x3 x4 x5 M) L 23 [] M := by
  intro n
  induction n with
  | zero =>
    intro x1 x2 x3 x4 x5 M L hL
    exact KF.none'
  | succ n ih =>
    intro x1 x2 x3 x4 x5 M L hL
    rw [f_X7_wouldBe_23]
    refine KF.locals (lsub_le hL) ?_
    refine k_iload hX rfl dX7_wouldBe_23 ?_
    refine k_aload_n hX (i := 0) rfl rfl dX7_wouldBe_25 ?_
    refine k_get hX io_218 fl_X7_7 rfl dX7_wouldBe_26 ?_
    refine k_iload_n hX (i := 1) rfl rfl dX7_wouldBe_29 ?_
    refine k_callSI (vs := [.int x1]) hX (fun _ h9 => m_X7_w hX.2.2.2.2.2.2.1  h9) ml_X7_74 ⟨Nat.le_of_ble_eq_true rfl, Nat.le_of_ble_eq_true rfl⟩ rfl rfl (Nat.le_of_ble_eq_true rfl) dX7_wouldBe_30 (fun q1 => ?_)
    refine k_iconst (v := (nI 5)) hX rfl dX7_wouldBe_33 ?_
    refine k_iadd hX dX7_wouldBe_34 ?_
    refine k_ald hX ia_219 dX7_wouldBe_35 (fun v2 => ?_)
    refine k_icmp_ge (tgt := 92) hX dX7_wouldBe_36 (by decide) (fun b3 => ?_) (fun b3 => ?_)
    · refine k_iload hX rfl dX7_wouldBe_92 ?_
      refine k_if_ne (tgt := 101) hX dX7_wouldBe_94 (by decide) (fun b4 => ?_) (fun b4 => ?_)
      · refine k_iload_n hX (i := 3) rfl rfl dX7_wouldBe_101 ?_
        refine k_if_eq (tgt := 109) hX dX7_wouldBe_102 (by decide) (fun b5 => ?_) (fun b5 => ?_)
        · refine k_iconst (v := (nI 2)) hX rfl dX7_wouldBe_109 ?_
          exact w_X7_wouldBe_110 hX (nI 2) q1.2 trivial
        refine k_iconst (v := (nI 1)) hX rfl dX7_wouldBe_105 ?_
        refine k_goto (tgt := 110) hX dX7_wouldBe_106 (by decide) ?_
        exact w_X7_wouldBe_110 hX (nI 1) q1.2 trivial
      refine k_iconst (v := (nI 0)) hX rfl dX7_wouldBe_97 ?_
      refine k_goto (tgt := 110) hX dX7_wouldBe_98 (by decide) ?_
      exact w_X7_wouldBe_110 hX (nI 0) q1.2 trivial
    refine k_aload_n hX (i := 0) rfl rfl dX7_wouldBe_39 ?_
    refine k_aload_n hX (i := 0) rfl rfl dX7_wouldBe_40 ?_
    refine k_iload_n hX (i := 1) rfl rfl dX7_wouldBe_41 ?_
    refine k_iload hX rfl dX7_wouldBe_42 ?_
    refine k_callVI (vs := [.int x1, .int x5]) hX (fun _ h9 => m_X7_loadAlone hX.2.2.2.2.2.2.1  h9) io_218 rfl ml_X7_165 ⟨Nat.le_of_ble_eq_true rfl, Nat.le_of_ble_eq_true rfl⟩ rfl rfl (Nat.le_of_ble_eq_true rfl) dX7_wouldBe_44 (fun q6 => ?_)
    refine k_iload_n hX (i := 2) rfl rfl dX7_wouldBe_47 ?_
    refine k_callVI (vs := [.int q6.1, .int x2]) hX (fun _ h9 => m_X7_rewritten hX.2.2.2.2.2.2.1  h9) io_218 rfl ml_X7_168 ⟨Nat.le_of_ble_eq_true rfl, Nat.le_of_ble_eq_true rfl⟩ rfl rfl (Nat.le_of_ble_eq_true rfl) dX7_wouldBe_48 (fun q7 => ?_)
    refine k_istore (L' := [some (.ref (ad 218)), some (.int x1), some (.int x2), some (.int x3), some (.int x4), some (.int x5), some (.int q7.1)]) hX (by decide) rfl dX7_wouldBe_51 ?_
    refine k_iload_n hX (i := 3) rfl rfl dX7_wouldBe_53 ?_
    refine k_if_eq (tgt := 67) hX dX7_wouldBe_54 (by decide) (fun b8 => ?_) (fun b8 => ?_)
    · exact w_X7_wouldBe_67 hX ih x1 x2 x4 x5 q7.1 q7.2 ⟨rfl, rfl, rfl, rfl, rfl, rfl, trivial⟩
    refine k_iload hX rfl dX7_wouldBe_57 ?_
    refine k_iconst (v := (nI 1)) hX rfl dX7_wouldBe_59 ?_
    refine k_icmp_ne (tgt := 67) hX dX7_wouldBe_60 (by decide) (fun b9 => ?_) (fun b9 => ?_)
    · exact w_X7_wouldBe_67 hX ih x1 x2 x4 x5 q7.1 q7.2 ⟨rfl, rfl, rfl, rfl, rfl, rfl, trivial⟩
    refine k_iconst (v := (nI 1)) hX rfl dX7_wouldBe_63 ?_
    refine k_goto (tgt := 68) hX dX7_wouldBe_64 (by decide) ?_
    exact w_X7_wouldBe_68 hX ih x1 x2 x4 x5 q7.1 (nI 1) q7.2 ⟨rfl, rfl, rfl, rfl, rfl, rfl, trivial⟩
set_option maxHeartbeats 4000000 in
set_option maxRecDepth 100000 in
theorem w_X7_wouldBe {l : Launch} {G : GL} {ad : Nat → Nat} {MM : Mem} {X : CT} (hX : Cx l { frames := 8, cells := 0, slots := 0, locals := 186 } cX7_wouldBe RX7 7 (some .int) G ad X) {p1 : Int32} {p2 : Int32} {M : Mem} : KF l { frames := 8, cells := 0, slots := 0, locals := 186 } 7 G ad (EM G ad MM) (QP PostI G ad (EM G ad MM)) X (f_X7_wouldBe p1 p2 M) [some (.ref (ad 218)), some (.int p1), some (.int p2), none, none, none, none] 0 [] M := by
  unfold f_X7_wouldBe
  refine k_aload_n hX (i := 0) rfl rfl dX7_wouldBe_0 ?_
  refine k_iload_n hX (i := 1) rfl rfl dX7_wouldBe_1 ?_
  refine k_callVI (vs := [.int p1]) hX (fun _ h9 => m_X7_verdict hX.2.2.2.2.2.2.1  h9) io_218 rfl ml_X7_162 ⟨Nat.le_of_ble_eq_true rfl, Nat.le_of_ble_eq_true rfl⟩ rfl rfl (Nat.le_of_ble_eq_true rfl) dX7_wouldBe_2 (fun q1 => ?_)
  refine k_iconst (v := (nI 2)) hX rfl dX7_wouldBe_5 ?_
  refine k_icmp_ge (tgt := 15) hX dX7_wouldBe_6 (by decide) (fun b2 => ?_) (fun b2 => ?_)
  · refine k_iconst (v := (nI 1)) hX rfl dX7_wouldBe_15 ?_
    refine k_istore_n (L' := [some (.ref (ad 218)), some (.int p1), some (.int p2), some (.int (nI 1)), none, none, none]) hX (i := 3) rfl (by decide) rfl dX7_wouldBe_16 ?_
    refine k_iconst (v := (nI 1)) hX rfl dX7_wouldBe_17 ?_
    refine k_istore (L' := [some (.ref (ad 218)), some (.int p1), some (.int p2), some (.int (nI 1)), some (.int (nI 1)), none, none]) hX (by decide) rfl dX7_wouldBe_18 ?_
    refine k_iconst (v := (nI 0)) hX rfl dX7_wouldBe_20 ?_
    refine k_istore (L' := [some (.ref (ad 218)), some (.int p1), some (.int p2), some (.int (nI 1)), some (.int (nI 1)), some (.int (nI 0)), none]) hX (by decide) rfl dX7_wouldBe_21 ?_
    exact w_X7_wouldBe_23 hX fuelN p1 p2 (nI 1) (nI 1) (nI 0) q1.2 ⟨rfl, rfl, rfl, rfl, rfl, rfl, trivial⟩
  refine k_aload_n hX (i := 0) rfl rfl dX7_wouldBe_9 ?_
  refine k_iload_n hX (i := 1) rfl rfl dX7_wouldBe_10 ?_
  refine k_callVI (vs := [.int p1]) hX (fun _ h9 => m_X7_verdict hX.2.2.2.2.2.2.1  h9) io_218 rfl ml_X7_162 ⟨Nat.le_of_ble_eq_true rfl, Nat.le_of_ble_eq_true rfl⟩ rfl rfl (Nat.le_of_ble_eq_true rfl) dX7_wouldBe_11 (fun q3 => ?_)
  exact k_iret hX dX7_wouldBe_14
set_option maxRecDepth 100000 in
theorem m_X7_wouldBe {l : Launch} {G : GL} {ad : Nat → Nat} {MM : Mem} (hAd : AdOK G ad) {p1 : Int32} {p2 : Int32} {M : Mem} {r : Rv} (h : f_X7_wouldBe p1 p2 M = some r) : Ct PostI l G ad (EM G ad MM) yX7_wouldBe cX7_wouldBe 7 (some .int) 8 186 [.ref (ad 218), .int p1, .int p2] M r := ct_of' hAd (by decide +kernel) (List.forall_mem_cons.mpr ⟨rfl, (List.forall_mem_cons.mpr ⟨rfl, (List.forall_mem_cons.mpr ⟨rfl, (fun _ h => absurd h List.not_mem_nil)⟩)⟩)⟩) (Nat.le_of_ble_eq_true rfl) (L := [some (.ref (ad 218)), some (.int p1), some (.int p2), none, none, none, none]) rfl (fun _ hX => w_X7_wouldBe hX) h
set_option maxHeartbeats 4000000 in
set_option maxRecDepth 100000 in
theorem w_X7_blame_35 {l : Launch} {G : GL} {ad : Nat → Nat} {MM : Mem} {X : CT} (hX : Cx l { frames := 9, cells := 0, slots := 0, locals := 212 } cX7_blame RX7 5 (some .int) G ad X) {k5 : Int32 → Int32 → Int32 → Int32 → Mem → Option Rv} (hk5 : ∀ (x1 : Int32) (x2 : Int32) (x3 : Int32) (x4 : Int32) (M : Mem) {L : List (Option Value)}, lsub [some (.ref (ad 218)), some (.int x1), some (.int x2), some (.int x3), some (.int x4)] L → KF l { frames := 9, cells := 0, slots := 0, locals := 212 } 5 G ad (EM G ad MM) (QP PostI G ad (EM G ad MM)) X (k5 x1 x2 x3 x4 M) L 5 [] M) : ∀ (x1 : Int32) (x2 : Int32) (x4 : Int32) (s0 : Int32) (s1 : Int32) (M : Mem) {L : List (Option Value)}, lsub [some (.ref (ad 218)), some (.int x1), some (.int x2), none, some (.int x4)] L → KF l { frames := 9, cells := 0, slots := 0, locals := 212 } 5 G ad (EM G ad MM) (QP PostI G ad (EM G ad MM)) X (f_X7_blame_35 k5 x1 x2 x4 s0 s1 M) L 35 [.int s0, .int s1] M := by
  intro x1 x2 x4 s0 s1 M L hL
  unfold f_X7_blame_35
  refine KF.locals (lsub_le hL) ?_
  refine k_ior hX dX7_blame_35 ?_
  refine k_istore_n (L' := [some (.ref (ad 218)), some (.int x1), some (.int x2), some (.int (s1 ||| s0)), some (.int x4)]) hX (i := 3) rfl (by decide) rfl dX7_blame_36 ?_
  refine k_iinc (v := x4 + nI 1) (L' := [some (.ref (ad 218)), some (.int x1), some (.int x2), some (.int (s1 ||| s0)), some (.int (x4 + nI 1))]) hX (i := 4) rfl rfl (by decide) rfl dX7_blame_37 ?_
  refine k_goto (tgt := 5) hX dX7_blame_40 (by decide) ?_
  exact hk5 x1 x2 (s1 ||| s0) (x4 + nI 1) M ⟨rfl, rfl, rfl, rfl, rfl, trivial⟩
set_option maxHeartbeats 4000000 in
set_option maxRecDepth 100000 in
theorem w_X7_blame_5 {l : Launch} {G : GL} {ad : Nat → Nat} {MM : Mem} {X : CT} (hX : Cx l { frames := 9, cells := 0, slots := 0, locals := 212 } cX7_blame RX7 5 (some .int) G ad X) : ∀ (n : Nat), ∀ (x1 : Int32) (x2 : Int32) (x3 : Int32) (x4 : Int32) (M : Mem) {L : List (Option Value)}, lsub [some (.ref (ad 218)), some (.int x1), some (.int x2), some (.int x3), some (.int x4)] L → KF l { frames := 9, cells := 0, slots := 0, locals := 212 } 5 G ad (EM G ad MM) (QP PostI G ad (EM G ad MM)) X (f_X7_blame_5 n x1 x2 x3 x4 M) L 5 [] M := by
  intro n
  induction n with
  | zero =>
    intro x1 x2 x3 x4 M L hL
    exact KF.none'
  | succ n ih =>
    intro x1 x2 x3 x4 M L hL
    rw [f_X7_blame_5]
    refine KF.locals (lsub_le hL) ?_
    refine k_iload hX rfl dX7_blame_5 ?_
    refine k_bipush (v := (nI 6)) hX rfl dX7_blame_7 ?_
    refine k_icmp_ge (tgt := 43) hX dX7_blame_9 (by decide) (fun b1 => ?_) (fun b1 => ?_)
    · refine k_iload_n hX (i := 3) rfl rfl dX7_blame_43 ?_
      exact k_iret hX dX7_blame_44
    refine k_iload_n hX (i := 3) rfl rfl dX7_blame_12 ?_
    refine k_aload_n hX (i := 0) rfl rfl dX7_blame_13 ?_
    refine k_iload_n hX (i := 1) rfl rfl dX7_blame_14 ?_
    refine k_iload_n hX (i := 2) rfl rfl dX7_blame_15 ?_
    refine k_iconst (v := (nI 1)) hX rfl dX7_blame_16 ?_
    refine k_iload hX rfl dX7_blame_17 ?_
    refine k_ishl hX dX7_blame_19 ?_
    refine k_ixor hX dX7_blame_20 ?_
    refine k_callVI (vs := [.int x1, .int (x2 ^^^ ((nI 1) <<< (x4 &&& nI 31)))]) hX (fun _ h9 => m_X7_wouldBe hX.2.2.2.2.2.2.1  h9) io_218 rfl ml_X7_171 ⟨Nat.le_of_ble_eq_true rfl, Nat.le_of_ble_eq_true rfl⟩ rfl rfl (Nat.le_of_ble_eq_true rfl) dX7_blame_21 (fun q2 => ?_)
    refine k_if_ne (tgt := 31) hX dX7_blame_24 (by decide) (fun b3 => ?_) (fun b3 => ?_)
    · refine k_iconst (v := (nI 1)) hX rfl dX7_blame_31 ?_
      refine k_iload hX rfl dX7_blame_32 ?_
      refine k_ishl hX dX7_blame_34 ?_
      exact w_X7_blame_35 hX ih x1 x2 x4 ((nI 1) <<< (x4 &&& nI 31)) x3 q2.2 ⟨rfl, rfl, rfl, rfl, trivial⟩
    refine k_iconst (v := (nI 0)) hX rfl dX7_blame_27 ?_
    refine k_goto (tgt := 35) hX dX7_blame_28 (by decide) ?_
    exact w_X7_blame_35 hX ih x1 x2 x4 (nI 0) x3 q2.2 ⟨rfl, rfl, rfl, rfl, trivial⟩
set_option maxHeartbeats 4000000 in
set_option maxRecDepth 100000 in
theorem w_X7_blame {l : Launch} {G : GL} {ad : Nat → Nat} {MM : Mem} {X : CT} (hX : Cx l { frames := 9, cells := 0, slots := 0, locals := 212 } cX7_blame RX7 5 (some .int) G ad X) {p1 : Int32} {p2 : Int32} {M : Mem} : KF l { frames := 9, cells := 0, slots := 0, locals := 212 } 5 G ad (EM G ad MM) (QP PostI G ad (EM G ad MM)) X (f_X7_blame p1 p2 M) [some (.ref (ad 218)), some (.int p1), some (.int p2), none, none] 0 [] M := by
  unfold f_X7_blame
  refine k_iconst (v := (nI 0)) hX rfl dX7_blame_0 ?_
  refine k_istore_n (L' := [some (.ref (ad 218)), some (.int p1), some (.int p2), some (.int (nI 0)), none]) hX (i := 3) rfl (by decide) rfl dX7_blame_1 ?_
  refine k_iconst (v := (nI 0)) hX rfl dX7_blame_2 ?_
  refine k_istore (L' := [some (.ref (ad 218)), some (.int p1), some (.int p2), some (.int (nI 0)), some (.int (nI 0))]) hX (by decide) rfl dX7_blame_3 ?_
  exact w_X7_blame_5 hX fuelN p1 p2 (nI 0) (nI 0) M ⟨rfl, rfl, rfl, rfl, rfl, trivial⟩
set_option maxRecDepth 100000 in
theorem m_X7_blame {l : Launch} {G : GL} {ad : Nat → Nat} {MM : Mem} (hAd : AdOK G ad) {p1 : Int32} {p2 : Int32} {M : Mem} {r : Rv} (h : f_X7_blame p1 p2 M = some r) : Ct PostI l G ad (EM G ad MM) yX7_blame cX7_blame 5 (some .int) 9 212 [.ref (ad 218), .int p1, .int p2] M r := ct_of' hAd (by decide +kernel) (List.forall_mem_cons.mpr ⟨rfl, (List.forall_mem_cons.mpr ⟨rfl, (List.forall_mem_cons.mpr ⟨rfl, (fun _ h => absurd h List.not_mem_nil)⟩)⟩)⟩) (Nat.le_of_ble_eq_true rfl) (L := [some (.ref (ad 218)), some (.int p1), some (.int p2), none, none]) rfl (fun _ hX => w_X7_blame hX) h
set_option maxHeartbeats 4000000 in
set_option maxRecDepth 100000 in
theorem w_X7_isTooGreat_72 {l : Launch} {G : GL} {ad : Nat → Nat} {MM : Mem} {X : CT} (hX : Cx l { frames := 8, cells := 0, slots := 0, locals := 186 } cX7_isTooGreat RX7 5 (some .boolean) G ad X) {k4 : Int32 → Int32 → Int32 → Mem → Option Rv} (hk4 : ∀ (x1 : Int32) (x2 : Int32) (x3 : Int32) (M : Mem) {L : List (Option Value)}, lsub [some (.ref (ad 218)), some (.int x1), some (.int x2), some (.int x3), none] L → KF l { frames := 8, cells := 0, slots := 0, locals := 186 } 5 G ad (EM G ad MM) (QP PostI G ad (EM G ad MM)) X (k4 x1 x2 x3 M) L 4 [] M) {k17 : Int32 → Int32 → Int32 → Int32 → Mem → Option Rv} (hk17 : ∀ (x1 : Int32) (x2 : Int32) (x3 : Int32) (x4 : Int32) (M : Mem) {L : List (Option Value)}, lsub [some (.ref (ad 218)), some (.int x1), some (.int x2), some (.int x3), some (.int x4)] L → KF l { frames := 8, cells := 0, slots := 0, locals := 186 } 5 G ad (EM G ad MM) (QP PostI G ad (EM G ad MM)) X (k17 x1 x2 x3 x4 M) L 17 [] M) : ∀ (x1 : Int32) (x3 : Int32) (x4 : Int32) (s0 : Int32) (M : Mem) {L : List (Option Value)}, lsub [some (.ref (ad 218)), some (.int x1), none, some (.int x3), some (.int x4)] L → KF l { frames := 8, cells := 0, slots := 0, locals := 186 } 5 G ad (EM G ad MM) (QP PostI G ad (EM G ad MM)) X (f_X7_isTooGreat_72 k4 k17 x1 x3 x4 s0 M) L 72 [.int s0] M := by
  intro x1 x3 x4 s0 M L hL
  unfold f_X7_isTooGreat_72
  refine KF.locals (lsub_le hL) ?_
  refine k_istore_n (L' := [some (.ref (ad 218)), some (.int x1), some (.int s0), some (.int x3), some (.int x4)]) hX (i := 2) rfl (by decide) rfl dX7_isTooGreat_72 ?_
  refine k_iinc (v := x4 + nI 1) (L' := [some (.ref (ad 218)), some (.int x1), some (.int s0), some (.int x3), some (.int (x4 + nI 1))]) hX (i := 4) rfl rfl (by decide) rfl dX7_isTooGreat_73 ?_
  refine k_goto (tgt := 17) hX dX7_isTooGreat_76 (by decide) ?_
  exact hk17 x1 s0 x3 (x4 + nI 1) M ⟨rfl, rfl, rfl, rfl, rfl, trivial⟩
set_option maxHeartbeats 4000000 in
set_option maxRecDepth 100000 in
theorem w_X7_isTooGreat_79 {l : Launch} {G : GL} {ad : Nat → Nat} {MM : Mem} {X : CT} (hX : Cx l { frames := 8, cells := 0, slots := 0, locals := 186 } cX7_isTooGreat RX7 5 (some .boolean) G ad X) {k4 : Int32 → Int32 → Int32 → Mem → Option Rv} (hk4 : ∀ (x1 : Int32) (x2 : Int32) (x3 : Int32) (M : Mem) {L : List (Option Value)}, lsub [some (.ref (ad 218)), some (.int x1), some (.int x2), some (.int x3), none] L → KF l { frames := 8, cells := 0, slots := 0, locals := 186 } 5 G ad (EM G ad MM) (QP PostI G ad (EM G ad MM)) X (k4 x1 x2 x3 M) L 4 [] M) : ∀ (x1 : Int32) (x2 : Int32) (x3 : Int32) (M : Mem) {L : List (Option Value)}, lsub [some (.ref (ad 218)), some (.int x1), some (.int x2), some (.int x3), none] L → KF l { frames := 8, cells := 0, slots := 0, locals := 186 } 5 G ad (EM G ad MM) (QP PostI G ad (EM G ad MM)) X (f_X7_isTooGreat_79 k4 x1 x2 x3 M) L 79 [] M := by
  intro x1 x2 x3 M L hL
  unfold f_X7_isTooGreat_79
  refine KF.locals (lsub_le hL) ?_
  refine k_iinc (v := x3 + nI 1) (L' := [some (.ref (ad 218)), some (.int x1), some (.int x2), some (.int (x3 + nI 1)), none]) hX (i := 3) rfl rfl (by decide) rfl dX7_isTooGreat_79 ?_
  refine k_goto (tgt := 4) hX dX7_isTooGreat_82 (by decide) ?_
  exact hk4 x1 x2 (x3 + nI 1) M ⟨rfl, rfl, rfl, rfl, trivial⟩
set_option maxHeartbeats 4000000 in
set_option maxRecDepth 100000 in
theorem w_X7_isTooGreat_17 {l : Launch} {G : GL} {ad : Nat → Nat} {MM : Mem} {X : CT} (hX : Cx l { frames := 8, cells := 0, slots := 0, locals := 186 } cX7_isTooGreat RX7 5 (some .boolean) G ad X) {k4 : Int32 → Int32 → Int32 → Mem → Option Rv} (hk4 : ∀ (x1 : Int32) (x2 : Int32) (x3 : Int32) (M : Mem) {L : List (Option Value)}, lsub [some (.ref (ad 218)), some (.int x1), some (.int x2), some (.int x3), none] L → KF l { frames := 8, cells := 0, slots := 0, locals := 186 } 5 G ad (EM G ad MM) (QP PostI G ad (EM G ad MM)) X (k4 x1 x2 x3 M) L 4 [] M) : ∀ (n : Nat), ∀ (x1 : Int32) (x2 : Int32) (x3 : Int32) (x4 : Int32) (M : Mem) {L : List (Option Value)}, lsub [some (.ref (ad 218)), some (.int x1), some (.int x2), some (.int x3), some (.int x4)] L → KF l { frames := 8, cells := 0, slots := 0, locals := 186 } 5 G ad (EM G ad MM) (QP PostI G ad (EM G ad MM)) X (f_X7_isTooGreat_17 k4 n x1 x2 x3 x4 M) L 17 [] M := by
  intro n
  induction n with
  | zero =>
    intro x1 x2 x3 x4 M L hL
    exact KF.none'
  | succ n ih =>
    intro x1 x2 x3 x4 M L hL
    rw [f_X7_isTooGreat_17]
    refine KF.locals (lsub_le hL) ?_
    refine k_iload hX rfl dX7_isTooGreat_17 ?_
    refine k_aload_n hX (i := 0) rfl rfl dX7_isTooGreat_19 ?_
    refine k_get hX io_218 fl_X7_7 rfl dX7_isTooGreat_20 ?_
    refine k_iload_n hX (i := 3) rfl rfl dX7_isTooGreat_23 ?_
    refine k_callSI (vs := [.int x3]) hX (fun _ h9 => m_X7_w hX.2.2.2.2.2.2.1  h9) ml_X7_74 ⟨Nat.le_of_ble_eq_true rfl, Nat.le_of_ble_eq_true rfl⟩ rfl rfl (Nat.le_of_ble_eq_true rfl) dX7_isTooGreat_24 (fun q1 => ?_)
    refine k_iconst (v := (nI 5)) hX rfl dX7_isTooGreat_27 ?_
    refine k_iadd hX dX7_isTooGreat_28 ?_
    refine k_ald hX ia_219 dX7_isTooGreat_29 (fun v2 => ?_)
    refine k_icmp_ge (tgt := 79) hX dX7_isTooGreat_30 (by decide) (fun b3 => ?_) (fun b3 => ?_)
    · exact w_X7_isTooGreat_79 hX hk4 x1 x2 x3 q1.2 ⟨rfl, rfl, rfl, rfl, trivial⟩
    refine k_aload_n hX (i := 0) rfl rfl dX7_isTooGreat_33 ?_
    refine k_iload_n hX (i := 3) rfl rfl dX7_isTooGreat_34 ?_
    refine k_callVI (vs := [.int x3]) hX (fun _ h9 => m_X7_isThere hX.2.2.2.2.2.2.1  h9) io_218 rfl ml_X7_174 ⟨Nat.le_of_ble_eq_true rfl, Nat.le_of_ble_eq_true rfl⟩ rfl rfl (Nat.le_of_ble_eq_true rfl) dX7_isTooGreat_35 (fun q4 => ?_)
    refine k_if_eq (tgt := 79) hX dX7_isTooGreat_38 (by decide) (fun b5 => ?_) (fun b5 => ?_)
    · exact w_X7_isTooGreat_79 hX hk4 x1 x2 x3 q4.2 ⟨rfl, rfl, rfl, rfl, trivial⟩
    refine k_iload_n hX (i := 2) rfl rfl dX7_isTooGreat_41 ?_
    refine k_if_ne (tgt := 79) hX dX7_isTooGreat_42 (by decide) (fun b6 => ?_) (fun b6 => ?_)
    · exact w_X7_isTooGreat_79 hX hk4 x1 x2 x3 q4.2 ⟨rfl, rfl, rfl, rfl, trivial⟩
    refine k_aload_n hX (i := 0) rfl rfl dX7_isTooGreat_45 ?_
    refine k_get hX io_218 fl_X7_29 rfl dX7_isTooGreat_46 ?_
    refine k_aload_n hX (i := 0) rfl rfl dX7_isTooGreat_49 ?_
    refine k_aload_n hX (i := 0) rfl rfl dX7_isTooGreat_50 ?_
    refine k_iload_n hX (i := 3) rfl rfl dX7_isTooGreat_51 ?_
    refine k_iload hX rfl dX7_isTooGreat_52 ?_
    refine k_callVI (vs := [.int x3, .int x4]) hX (fun _ h9 => m_X7_loadAlone hX.2.2.2.2.2.2.1  h9) io_218 rfl ml_X7_165 ⟨Nat.le_of_ble_eq_true rfl, Nat.le_of_ble_eq_true rfl⟩ rfl rfl (Nat.le_of_ble_eq_true rfl) dX7_isTooGreat_54 (fun q7 => ?_)
    refine k_iload_n hX (i := 1) rfl rfl dX7_isTooGreat_57 ?_
    refine k_callVI (vs := [.int q7.1, .int x1]) hX (fun _ h9 => m_X7_rewritten hX.2.2.2.2.2.2.1  h9) io_218 rfl ml_X7_168 ⟨Nat.le_of_ble_eq_true rfl, Nat.le_of_ble_eq_true rfl⟩ rfl rfl (Nat.le_of_ble_eq_true rfl) dX7_isTooGreat_58 (fun q8 => ?_)
    refine k_ald hX ia_225 dX7_isTooGreat_61 (fun v9 => ?_)
    refine k_bipush (v := (nI 120)) hX rfl dX7_isTooGreat_62 ?_
    refine k_icmp_le (tgt := 71) hX dX7_isTooGreat_64 (by decide) (fun b10 => ?_) (fun b10 => ?_)
    · refine k_iconst (v := (nI 0)) hX rfl dX7_isTooGreat_71 ?_
      exact w_X7_isTooGreat_72 hX hk4 ih x1 x3 x4 (nI 0) q8.2 ⟨rfl, rfl, rfl, rfl, trivial⟩
    refine k_iconst (v := (nI 1)) hX rfl dX7_isTooGreat_67 ?_
    refine k_goto (tgt := 72) hX dX7_isTooGreat_68 (by decide) ?_
    exact w_X7_isTooGreat_72 hX hk4 ih x1 x3 x4 (nI 1) q8.2 ⟨rfl, rfl, rfl, rfl, trivial⟩
set_option maxHeartbeats 4000000 in
set_option maxRecDepth 100000 in
theorem w_X7_isTooGreat_4 {l : Launch} {G : GL} {ad : Nat → Nat} {MM : Mem} {X : CT} (hX : Cx l { frames := 8, cells := 0, slots := 0, locals := 186 } cX7_isTooGreat RX7 5 (some .boolean) G ad X) : ∀ (n : Nat), ∀ (x1 : Int32) (x2 : Int32) (x3 : Int32) (M : Mem) {L : List (Option Value)}, lsub [some (.ref (ad 218)), some (.int x1), some (.int x2), some (.int x3), none] L → KF l { frames := 8, cells := 0, slots := 0, locals := 186 } 5 G ad (EM G ad MM) (QP PostI G ad (EM G ad MM)) X (f_X7_isTooGreat_4 n x1 x2 x3 M) L 4 [] M := by
  intro n
  induction n with
  | zero =>
    intro x1 x2 x3 M L hL
    exact KF.none'
  | succ n ih =>
    intro x1 x2 x3 M L hL
    rw [f_X7_isTooGreat_4]
    refine KF.locals (lsub_le hL) ?_
    refine k_iload_n hX (i := 3) rfl rfl dX7_isTooGreat_4 ?_
    refine k_aload_n hX (i := 0) rfl rfl dX7_isTooGreat_5 ?_
    refine k_get hX io_218 fl_X7_7 rfl dX7_isTooGreat_6 ?_
    refine k_iconst (v := (nI 2)) hX rfl dX7_isTooGreat_9 ?_
    refine k_ald hX ia_219 dX7_isTooGreat_10 (fun v1 => ?_)
    refine k_icmp_ge (tgt := 85) hX dX7_isTooGreat_11 (by decide) (fun b2 => ?_) (fun b2 => ?_)
    · refine k_iload_n hX (i := 2) rfl rfl dX7_isTooGreat_85 ?_
      exact k_zret hX dX7_isTooGreat_86
    refine k_iconst (v := (nI 0)) hX rfl dX7_isTooGreat_14 ?_
    refine k_istore (L' := [some (.ref (ad 218)), some (.int x1), some (.int x2), some (.int x3), some (.int (nI 0))]) hX (by decide) rfl dX7_isTooGreat_15 ?_
    exact w_X7_isTooGreat_17 hX ih fuelN x1 x2 x3 (nI 0) M ⟨rfl, rfl, rfl, rfl, rfl, trivial⟩
set_option maxHeartbeats 4000000 in
set_option maxRecDepth 100000 in
theorem w_X7_isTooGreat {l : Launch} {G : GL} {ad : Nat → Nat} {MM : Mem} {X : CT} (hX : Cx l { frames := 8, cells := 0, slots := 0, locals := 186 } cX7_isTooGreat RX7 5 (some .boolean) G ad X) {p1 : Int32} {M : Mem} : KF l { frames := 8, cells := 0, slots := 0, locals := 186 } 5 G ad (EM G ad MM) (QP PostI G ad (EM G ad MM)) X (f_X7_isTooGreat p1 M) [some (.ref (ad 218)), some (.int p1), none, none, none] 0 [] M := by
  unfold f_X7_isTooGreat
  refine k_iconst (v := (nI 0)) hX rfl dX7_isTooGreat_0 ?_
  refine k_istore_n (L' := [some (.ref (ad 218)), some (.int p1), some (.int (nI 0)), none, none]) hX (i := 2) rfl (by decide) rfl dX7_isTooGreat_1 ?_
  refine k_iconst (v := (nI 0)) hX rfl dX7_isTooGreat_2 ?_
  refine k_istore_n (L' := [some (.ref (ad 218)), some (.int p1), some (.int (nI 0)), some (.int (nI 0)), none]) hX (i := 3) rfl (by decide) rfl dX7_isTooGreat_3 ?_
  exact w_X7_isTooGreat_4 hX fuelN p1 (nI 0) (nI 0) M ⟨rfl, rfl, rfl, rfl, trivial⟩
set_option maxRecDepth 100000 in
theorem m_X7_isTooGreat {l : Launch} {G : GL} {ad : Nat → Nat} {MM : Mem} (hAd : AdOK G ad) {p1 : Int32} {M : Mem} {r : Rv} (h : f_X7_isTooGreat p1 M = some r) : Ct PostI l G ad (EM G ad MM) yX7_isTooGreat cX7_isTooGreat 5 (some .boolean) 8 186 [.ref (ad 218), .int p1] M r := ct_of' hAd (by decide +kernel) (List.forall_mem_cons.mpr ⟨rfl, (List.forall_mem_cons.mpr ⟨rfl, (fun _ h => absurd h List.not_mem_nil)⟩)⟩) (Nat.le_of_ble_eq_true rfl) (L := [some (.ref (ad 218)), some (.int p1), none, none, none]) rfl (fun _ hX => w_X7_isTooGreat hX) h
set_option maxHeartbeats 4000000 in
set_option maxRecDepth 100000 in
theorem w_X7_happens_88 {l : Launch} {G : GL} {ad : Nat → Nat} {MM : Mem} {X : CT} (hX : Cx l { frames := 10, cells := 0, slots := 0, locals := 236 } cX7_happens RX7 6 (some .int) G ad X) : ∀ (M : Mem) {L : List (Option Value)}, lsub [none, none, none, none, none, none] L → KF l { frames := 10, cells := 0, slots := 0, locals := 236 } 6 G ad (EM G ad MM) (QP PostI G ad (EM G ad MM)) X (f_X7_happens_88 M) L 88 [] M := by
  intro M L hL
  unfold f_X7_happens_88
  refine KF.locals (lsub_le hL) ?_
  refine k_iconst (v := (nI 0)) hX rfl dX7_happens_88 ?_
  exact k_iret hX dX7_happens_89
set_option maxHeartbeats 4000000 in
set_option maxRecDepth 100000 in
theorem w_X7_happens_147 {l : Launch} {G : GL} {ad : Nat → Nat} {MM : Mem} {X : CT} (hX : Cx l { frames := 10, cells := 0, slots := 0, locals := 236 } cX7_happens RX7 6 (some .int) G ad X) : ∀ (s0 : Int32) (s1 : Int32) (M : Mem) {L : List (Option Value)}, lsub [none, none, none, none, none, none] L → KF l { frames := 10, cells := 0, slots := 0, locals := 236 } 6 G ad (EM G ad MM) (QP PostI G ad (EM G ad MM)) X (f_X7_happens_147 s0 s1 M) L 147 [.int s0, .int s1, .ref (ad 219)] M := by
  intro s0 s1 M L hL
  unfold f_X7_happens_147
  refine KF.locals (lsub_le hL) ?_
  refine k_ast hX locM ia_219 dX7_happens_147 (fun M1 => ?_)
  refine k_iconst (v := (nI 1)) hX rfl dX7_happens_148 ?_
  exact k_iret hX dX7_happens_149
set_option maxHeartbeats 4000000 in
set_option maxRecDepth 100000 in
theorem w_X7_happens_34 {l : Launch} {G : GL} {ad : Nat → Nat} {MM : Mem} {X : CT} (hX : Cx l { frames := 10, cells := 0, slots := 0, locals := 236 } cX7_happens RX7 6 (some .int) G ad X) : ∀ (n : Nat), ∀ (x1 : Int32) (x2 : Int32) (x3 : Int32) (x4 : Int32) (x5 : Int32) (M : Mem) {L : List (Option Value)}, lsub [some (.ref (ad 218)), some (.int x1), some (.int x2), some (.int x3), some (.int x4), some (.int x5)] L → KF l { frames := 10, cells := 0, slots := 0, locals := 236 } 6 G ad (EM G ad MM) (QP PostI G ad (EM G ad MM)) X (f_X7_happens_34 n x1 x2 x3 x4 x5 M) L 34 [] M := by
  intro n
  induction n with
  | zero =>
    intro x1 x2 x3 x4 x5 M L hL
    exact KF.none'
  | succ n ih =>
    intro x1 x2 x3 x4 x5 M L hL
    rw [f_X7_happens_34]
    refine KF.locals (lsub_le hL) ?_
    refine k_iload hX rfl dX7_happens_34 ?_
    refine k_aload_n hX (i := 0) rfl rfl dX7_happens_36 ?_
    refine k_get hX io_218 fl_X7_7 rfl dX7_happens_37 ?_
    refine k_iload_n hX (i := 1) rfl rfl dX7_happens_40 ?_
    refine k_callSI (vs := [.int x1]) hX (fun _ h9 => m_X7_w hX.2.2.2.2.2.2.1  h9) ml_X7_74 ⟨Nat.le_of_ble_eq_true rfl, Nat.le_of_ble_eq_true rfl⟩ rfl rfl (Nat.le_of_ble_eq_true rfl) dX7_happens_41 (fun q1 => ?_)
    refine k_iconst (v := (nI 5)) hX rfl dX7_happens_44 ?_
    refine k_iadd hX dX7_happens_45 ?_
    refine k_ald hX ia_219 dX7_happens_46 (fun v2 => ?_)
    refine k_icmp_ge (tgt := 75) hX dX7_happens_47 (by decide) (fun b3 => ?_) (fun b3 => ?_)
    · refine k_iload_n hX (i := 3) rfl rfl dX7_happens_75 ?_
      refine k_if_eq (tgt := 88) hX dX7_happens_76 (by decide) (fun b4 => ?_) (fun b4 => ?_)
      · exact w_X7_happens_88 hX q1.2 trivial
      refine k_aload_n hX (i := 0) rfl rfl dX7_happens_79 ?_
      refine k_iload_n hX (i := 1) rfl rfl dX7_happens_80 ?_
      refine k_callVI (vs := [.int x1]) hX (fun _ h9 => m_X7_verdictBy hX.2.2.2.2.2.2.1  h9) io_218 rfl ml_X7_185 ⟨Nat.le_of_ble_eq_true rfl, Nat.le_of_ble_eq_true rfl⟩ rfl rfl (Nat.le_of_ble_eq_true rfl) dX7_happens_81 (fun q5 => ?_)
      refine k_iconst (v := (nI 2)) hX rfl dX7_happens_84 ?_
      refine k_icmp_ne (tgt := 90) hX dX7_happens_85 (by decide) (fun b6 => ?_) (fun b6 => ?_)
      · refine k_aload_n hX (i := 0) rfl rfl dX7_happens_90 ?_
        refine k_get hX io_218 fl_X7_7 rfl dX7_happens_91 ?_
        refine k_iload_n hX (i := 1) rfl rfl dX7_happens_94 ?_
        refine k_callSI (vs := [.int x1]) hX (fun _ h9 => m_X7_w hX.2.2.2.2.2.2.1  h9) ml_X7_74 ⟨Nat.le_of_ble_eq_true rfl, Nat.le_of_ble_eq_true rfl⟩ rfl rfl (Nat.le_of_ble_eq_true rfl) dX7_happens_95 (fun q7 => ?_)
        refine k_iconst (v := (nI 1)) hX rfl dX7_happens_98 ?_
        refine k_iadd hX dX7_happens_99 ?_
        refine k_aload_n hX (i := 0) rfl rfl dX7_happens_100 ?_
        refine k_iload_n hX (i := 1) rfl rfl dX7_happens_101 ?_
        refine k_callVI (vs := [.int x1]) hX (fun _ h9 => m_X7_verdictBy hX.2.2.2.2.2.2.1  h9) io_218 rfl ml_X7_185 ⟨Nat.le_of_ble_eq_true rfl, Nat.le_of_ble_eq_true rfl⟩ rfl rfl (Nat.le_of_ble_eq_true rfl) dX7_happens_102 (fun q8 => ?_)
        refine k_ast hX locM ia_219 dX7_happens_105 (fun M9 => ?_)
        refine k_aload_n hX (i := 0) rfl rfl dX7_happens_106 ?_
        refine k_get hX io_218 fl_X7_7 rfl dX7_happens_107 ?_
        refine k_iload_n hX (i := 1) rfl rfl dX7_happens_110 ?_
        refine k_callSI (vs := [.int x1]) hX (fun _ h9 => m_X7_w hX.2.2.2.2.2.2.1  h9) ml_X7_74 ⟨Nat.le_of_ble_eq_true rfl, Nat.le_of_ble_eq_true rfl⟩ rfl rfl (Nat.le_of_ble_eq_true rfl) dX7_happens_111 (fun q10 => ?_)
        refine k_iconst (v := (nI 2)) hX rfl dX7_happens_114 ?_
        refine k_iadd hX dX7_happens_115 ?_
        refine k_aload_n hX (i := 0) rfl rfl dX7_happens_116 ?_
        refine k_get hX io_218 fl_X7_7 rfl dX7_happens_117 ?_
        refine k_iconst (v := (nI 0)) hX rfl dX7_happens_120 ?_
        refine k_ald hX ia_219 dX7_happens_121 (fun v11 => ?_)
        refine k_ast hX locM ia_219 dX7_happens_122 (fun M12 => ?_)
        refine k_aload_n hX (i := 0) rfl rfl dX7_happens_123 ?_
        refine k_get hX io_218 fl_X7_7 rfl dX7_happens_124 ?_
        refine k_iload_n hX (i := 1) rfl rfl dX7_happens_127 ?_
        refine k_callSI (vs := [.int x1]) hX (fun _ h9 => m_X7_w hX.2.2.2.2.2.2.1  h9) ml_X7_74 ⟨Nat.le_of_ble_eq_true rfl, Nat.le_of_ble_eq_true rfl⟩ rfl rfl (Nat.le_of_ble_eq_true rfl) dX7_happens_128 (fun q13 => ?_)
        refine k_iconst (v := (nI 3)) hX rfl dX7_happens_131 ?_
        refine k_iadd hX dX7_happens_132 ?_
        refine k_aload_n hX (i := 0) rfl rfl dX7_happens_133 ?_
        refine k_iload_n hX (i := 1) rfl rfl dX7_happens_134 ?_
        refine k_callVI (vs := [.int x1]) hX (fun _ h9 => m_X7_verdict hX.2.2.2.2.2.2.1  h9) io_218 rfl ml_X7_162 ⟨Nat.le_of_ble_eq_true rfl, Nat.le_of_ble_eq_true rfl⟩ rfl rfl (Nat.le_of_ble_eq_true rfl) dX7_happens_135 (fun q14 => ?_)
        refine k_if_ne (tgt := 146) hX dX7_happens_138 (by decide) (fun b15 => ?_) (fun b15 => ?_)
        · refine k_iconst (v := (nI 0)) hX rfl dX7_happens_146 ?_
          exact w_X7_happens_147 hX (nI 0) (q13.1 + (nI 3)) q14.2 trivial
        refine k_iload hX rfl dX7_happens_141 ?_
        refine k_goto (tgt := 147) hX dX7_happens_143 (by decide) ?_
        exact w_X7_happens_147 hX x4 (q13.1 + (nI 3)) q14.2 trivial
      exact w_X7_happens_88 hX q5.2 trivial
    refine k_aload_n hX (i := 0) rfl rfl dX7_happens_50 ?_
    refine k_iload_n hX (i := 1) rfl rfl dX7_happens_51 ?_
    refine k_iload hX rfl dX7_happens_52 ?_
    refine k_aload_n hX (i := 0) rfl rfl dX7_happens_54 ?_
    refine k_aload_n hX (i := 0) rfl rfl dX7_happens_55 ?_
    refine k_iload_n hX (i := 1) rfl rfl dX7_happens_56 ?_
    refine k_iload hX rfl dX7_happens_57 ?_
    refine k_callVI (vs := [.int x1, .int x5]) hX (fun _ h9 => m_X7_loadAlone hX.2.2.2.2.2.2.1  h9) io_218 rfl ml_X7_165 ⟨Nat.le_of_ble_eq_true rfl, Nat.le_of_ble_eq_true rfl⟩ rfl rfl (Nat.le_of_ble_eq_true rfl) dX7_happens_59 (fun q16 => ?_)
    refine k_iload_n hX (i := 2) rfl rfl dX7_happens_62 ?_
    refine k_callVI (vs := [.int q16.1, .int x2]) hX (fun _ h9 => m_X7_rewritten hX.2.2.2.2.2.2.1  h9) io_218 rfl ml_X7_168 ⟨Nat.le_of_ble_eq_true rfl, Nat.le_of_ble_eq_true rfl⟩ rfl rfl (Nat.le_of_ble_eq_true rfl) dX7_happens_63 (fun q17 => ?_)
    refine k_callVV (vs := [.int x1, .int x5, .int q17.1]) hX (fun _ h9 => m_X7_store hX.2.2.2.2.2.2.1  h9) io_218 rfl ml_X7_181 ⟨Nat.le_of_ble_eq_true rfl, Nat.le_of_ble_eq_true rfl⟩ rfl rfl (Nat.le_of_ble_eq_true rfl) dX7_happens_66 (fun q18 => ?_)
    refine k_iinc (v := x5 + nI 1) (L' := [some (.ref (ad 218)), some (.int x1), some (.int x2), some (.int x3), some (.int x4), some (.int (x5 + nI 1))]) hX (i := 5) rfl rfl (by decide) rfl dX7_happens_69 ?_
    refine k_goto (tgt := 34) hX dX7_happens_72 (by decide) ?_
    exact ih x1 x2 x3 x4 (x5 + nI 1) q18.2 ⟨rfl, rfl, rfl, rfl, rfl, rfl, trivial⟩
set_option maxHeartbeats 4000000 in
set_option maxRecDepth 100000 in
theorem w_X7_happens_29 {l : Launch} {G : GL} {ad : Nat → Nat} {MM : Mem} {X : CT} (hX : Cx l { frames := 10, cells := 0, slots := 0, locals := 236 } cX7_happens RX7 6 (some .int) G ad X) : ∀ (x1 : Int32) (x2 : Int32) (x3 : Int32) (s0 : Int32) (M : Mem) {L : List (Option Value)}, lsub [some (.ref (ad 218)), some (.int x1), some (.int x2), some (.int x3), none, none] L → KF l { frames := 10, cells := 0, slots := 0, locals := 236 } 6 G ad (EM G ad MM) (QP PostI G ad (EM G ad MM)) X (f_X7_happens_29 x1 x2 x3 s0 M) L 29 [.int s0] M := by
  intro x1 x2 x3 s0 M L hL
  unfold f_X7_happens_29
  refine KF.locals (lsub_le hL) ?_
  refine k_istore (L' := [some (.ref (ad 218)), some (.int x1), some (.int x2), some (.int x3), some (.int s0), none]) hX (by decide) rfl dX7_happens_29 ?_
  refine k_iconst (v := (nI 0)) hX rfl dX7_happens_31 ?_
  refine k_istore (L' := [some (.ref (ad 218)), some (.int x1), some (.int x2), some (.int x3), some (.int s0), some (.int (nI 0))]) hX (by decide) rfl dX7_happens_32 ?_
  exact w_X7_happens_34 hX fuelN x1 x2 x3 s0 (nI 0) M ⟨rfl, rfl, rfl, rfl, rfl, rfl, trivial⟩
set_option maxHeartbeats 4000000 in
set_option maxRecDepth 100000 in
theorem w_X7_happens_14 {l : Launch} {G : GL} {ad : Nat → Nat} {MM : Mem} {X : CT} (hX : Cx l { frames := 10, cells := 0, slots := 0, locals := 236 } cX7_happens RX7 6 (some .int) G ad X) : ∀ (x1 : Int32) (x2 : Int32) (s0 : Int32) (M : Mem) {L : List (Option Value)}, lsub [some (.ref (ad 218)), some (.int x1), some (.int x2), none, none, none] L → KF l { frames := 10, cells := 0, slots := 0, locals := 236 } 6 G ad (EM G ad MM) (QP PostI G ad (EM G ad MM)) X (f_X7_happens_14 x1 x2 s0 M) L 14 [.int s0] M := by
  intro x1 x2 s0 M L hL
  unfold f_X7_happens_14
  refine KF.locals (lsub_le hL) ?_
  refine k_istore_n (L' := [some (.ref (ad 218)), some (.int x1), some (.int x2), some (.int s0), none, none]) hX (i := 3) rfl (by decide) rfl dX7_happens_14 ?_
  refine k_iload_n hX (i := 3) rfl rfl dX7_happens_15 ?_
  refine k_if_eq (tgt := 28) hX dX7_happens_16 (by decide) (fun b1 => ?_) (fun b1 => ?_)
  · refine k_iconst (v := (nI 0)) hX rfl dX7_happens_28 ?_
    exact w_X7_happens_29 hX x1 x2 s0 (nI 0) M ⟨rfl, rfl, rfl, rfl, trivial⟩
  refine k_aload_n hX (i := 0) rfl rfl dX7_happens_19 ?_
  refine k_iload_n hX (i := 1) rfl rfl dX7_happens_20 ?_
  refine k_iload_n hX (i := 2) rfl rfl dX7_happens_21 ?_
  refine k_callVI (vs := [.int x1, .int x2]) hX (fun _ h9 => m_X7_blame hX.2.2.2.2.2.2.1  h9) io_218 rfl ml_X7_178 ⟨Nat.le_of_ble_eq_true rfl, Nat.le_of_ble_eq_true rfl⟩ rfl rfl (Nat.le_of_ble_eq_true rfl) dX7_happens_22 (fun q2 => ?_)
  refine k_goto (tgt := 29) hX dX7_happens_25 (by decide) ?_
  exact w_X7_happens_29 hX x1 x2 s0 q2.1 q2.2 ⟨rfl, rfl, rfl, rfl, trivial⟩
set_option maxHeartbeats 4000000 in
set_option maxRecDepth 100000 in
theorem w_X7_happens {l : Launch} {G : GL} {ad : Nat → Nat} {MM : Mem} {X : CT} (hX : Cx l { frames := 10, cells := 0, slots := 0, locals := 236 } cX7_happens RX7 6 (some .int) G ad X) {p1 : Int32} {p2 : Int32} {M : Mem} : KF l { frames := 10, cells := 0, slots := 0, locals := 236 } 6 G ad (EM G ad MM) (QP PostI G ad (EM G ad MM)) X (f_X7_happens p1 p2 M) [some (.ref (ad 218)), some (.int p1), some (.int p2), none, none, none] 0 [] M := by
  unfold f_X7_happens
  refine k_aload_n hX (i := 0) rfl rfl dX7_happens_0 ?_
  refine k_iload_n hX (i := 1) rfl rfl dX7_happens_1 ?_
  refine k_callVI (vs := [.int p1]) hX (fun _ h9 => m_X7_verdict hX.2.2.2.2.2.2.1  h9) io_218 rfl ml_X7_162 ⟨Nat.le_of_ble_eq_true rfl, Nat.le_of_ble_eq_true rfl⟩ rfl rfl (Nat.le_of_ble_eq_true rfl) dX7_happens_2 (fun q1 => ?_)
  refine k_iconst (v := (nI 2)) hX rfl dX7_happens_5 ?_
  refine k_icmp_ne (tgt := 13) hX dX7_happens_6 (by decide) (fun b2 => ?_) (fun b2 => ?_)
  · refine k_iconst (v := (nI 0)) hX rfl dX7_happens_13 ?_
    exact w_X7_happens_14 hX p1 p2 (nI 0) q1.2 ⟨rfl, rfl, rfl, trivial⟩
  refine k_iconst (v := (nI 1)) hX rfl dX7_happens_9 ?_
  refine k_goto (tgt := 14) hX dX7_happens_10 (by decide) ?_
  exact w_X7_happens_14 hX p1 p2 (nI 1) q1.2 ⟨rfl, rfl, rfl, trivial⟩
set_option maxRecDepth 100000 in
theorem m_X7_happens {l : Launch} {G : GL} {ad : Nat → Nat} {MM : Mem} (hAd : AdOK G ad) {p1 : Int32} {p2 : Int32} {M : Mem} {r : Rv} (h : f_X7_happens p1 p2 M = some r) : Ct PostI l G ad (EM G ad MM) yX7_happens cX7_happens 6 (some .int) 10 236 [.ref (ad 218), .int p1, .int p2] M r := ct_of' hAd (by decide +kernel) (List.forall_mem_cons.mpr ⟨rfl, (List.forall_mem_cons.mpr ⟨rfl, (List.forall_mem_cons.mpr ⟨rfl, (fun _ h => absurd h List.not_mem_nil)⟩)⟩)⟩) (Nat.le_of_ble_eq_true rfl) (L := [some (.ref (ad 218)), some (.int p1), some (.int p2), none, none, none]) rfl (fun _ hX => w_X7_happens hX) h
set_option maxHeartbeats 4000000 in
set_option maxRecDepth 100000 in
theorem w_X7_event_45 {l : Launch} {G : GL} {ad : Nat → Nat} {MM : Mem} {X : CT} (hX : Cx l { frames := 11, cells := 0, slots := 0, locals := 261 } cX7_event RX7 4 (some .int) G ad X) : ∀ (M : Mem) {L : List (Option Value)}, lsub [none, none, none, none] L → KF l { frames := 11, cells := 0, slots := 0, locals := 261 } 4 G ad (EM G ad MM) (QP PostI G ad (EM G ad MM)) X (f_X7_event_45 M) L 45 [] M := by
  intro M L hL
  unfold f_X7_event_45
  refine KF.locals (lsub_le hL) ?_
  refine k_bipush (v := (-3)) hX rfl dX7_event_45 ?_
  exact k_iret hX dX7_event_47
set_option maxHeartbeats 4000000 in
set_option maxRecDepth 100000 in
theorem w_X7_event_85 {l : Launch} {G : GL} {ad : Nat → Nat} {MM : Mem} {X : CT} (hX : Cx l { frames := 11, cells := 0, slots := 0, locals := 261 } cX7_event RX7 4 (some .int) G ad X) {k56 : Int32 → Int32 → Int32 → Mem → Option Rv} (hk56 : ∀ (x1 : Int32) (x2 : Int32) (x3 : Int32) (M : Mem) {L : List (Option Value)}, lsub [some (.ref (ad 218)), some (.int x1), some (.int x2), some (.int x3)] L → KF l { frames := 11, cells := 0, slots := 0, locals := 261 } 4 G ad (EM G ad MM) (QP PostI G ad (EM G ad MM)) X (k56 x1 x2 x3 M) L 56 [] M) : ∀ (x1 : Int32) (x3 : Int32) (s0 : Int32) (s1 : Int32) (M : Mem) {L : List (Option Value)}, lsub [some (.ref (ad 218)), some (.int x1), none, some (.int x3)] L → KF l { frames := 11, cells := 0, slots := 0, locals := 261 } 4 G ad (EM G ad MM) (QP PostI G ad (EM G ad MM)) X (f_X7_event_85 k56 x1 x3 s0 s1 M) L 85 [.int s0, .int s1] M := by
  intro x1 x3 s0 s1 M L hL
  unfold f_X7_event_85
  refine KF.locals (lsub_le hL) ?_
  refine k_iadd hX dX7_event_85 ?_
  refine k_istore_n (L' := [some (.ref (ad 218)), some (.int x1), some (.int (s1 + s0)), some (.int x3)]) hX (i := 2) rfl (by decide) rfl dX7_event_86 ?_
  refine k_iinc (v := x3 + nI 1) (L' := [some (.ref (ad 218)), some (.int x1), some (.int (s1 + s0)), some (.int (x3 + nI 1))]) hX (i := 3) rfl rfl (by decide) rfl dX7_event_87 ?_
  refine k_goto (tgt := 56) hX dX7_event_90 (by decide) ?_
  exact hk56 x1 (s1 + s0) (x3 + nI 1) M ⟨rfl, rfl, rfl, rfl, trivial⟩
set_option maxHeartbeats 4000000 in
set_option maxRecDepth 100000 in
theorem w_X7_event_56 {l : Launch} {G : GL} {ad : Nat → Nat} {MM : Mem} {X : CT} (hX : Cx l { frames := 11, cells := 0, slots := 0, locals := 261 } cX7_event RX7 4 (some .int) G ad X) : ∀ (n : Nat), ∀ (x1 : Int32) (x2 : Int32) (x3 : Int32) (M : Mem) {L : List (Option Value)}, lsub [some (.ref (ad 218)), some (.int x1), some (.int x2), some (.int x3)] L → KF l { frames := 11, cells := 0, slots := 0, locals := 261 } 4 G ad (EM G ad MM) (QP PostI G ad (EM G ad MM)) X (f_X7_event_56 n x1 x2 x3 M) L 56 [] M := by
  intro n
  induction n with
  | zero =>
    intro x1 x2 x3 M L hL
    exact KF.none'
  | succ n ih =>
    intro x1 x2 x3 M L hL
    rw [f_X7_event_56]
    refine KF.locals (lsub_le hL) ?_
    refine k_iload_n hX (i := 3) rfl rfl dX7_event_56 ?_
    refine k_aload_n hX (i := 0) rfl rfl dX7_event_57 ?_
    refine k_get hX io_218 fl_X7_7 rfl dX7_event_58 ?_
    refine k_iconst (v := (nI 2)) hX rfl dX7_event_61 ?_
    refine k_ald hX ia_219 dX7_event_62 (fun v1 => ?_)
    refine k_icmp_ge (tgt := 93) hX dX7_event_63 (by decide) (fun b2 => ?_) (fun b2 => ?_)
    · refine k_aload_n hX (i := 0) rfl rfl dX7_event_93 ?_
      refine k_get hX io_218 fl_X7_7 rfl dX7_event_94 ?_
      refine k_iconst (v := (nI 4)) hX rfl dX7_event_97 ?_
      refine k_aload_n hX (i := 0) rfl rfl dX7_event_98 ?_
      refine k_get hX io_218 fl_X7_7 rfl dX7_event_99 ?_
      refine k_iconst (v := (nI 0)) hX rfl dX7_event_102 ?_
      refine k_ald hX ia_219 dX7_event_103 (fun v3 => ?_)
      refine k_iadd hX dX7_event_104 ?_
      refine k_iload_n hX (i := 1) rfl rfl dX7_event_105 ?_
      refine k_ast hX locM ia_219 dX7_event_106 (fun M4 => ?_)
      refine k_aload_n hX (i := 0) rfl rfl dX7_event_107 ?_
      refine k_get hX io_218 fl_X7_7 rfl dX7_event_108 ?_
      refine k_iconst (v := (nI 0)) hX rfl dX7_event_111 ?_
      refine k_dup2 hX rfl rfl dX7_event_112 ?_
      refine k_ald hX ia_219 dX7_event_113 (fun v5 => ?_)
      refine k_iconst (v := (nI 1)) hX rfl dX7_event_114 ?_
      refine k_iadd hX dX7_event_115 ?_
      refine k_ast hX locM ia_219 dX7_event_116 (fun M6 => ?_)
      refine k_iload_n hX (i := 2) rfl rfl dX7_event_117 ?_
      exact k_iret hX dX7_event_118
    refine k_iload_n hX (i := 2) rfl rfl dX7_event_66 ?_
    refine k_aload_n hX (i := 0) rfl rfl dX7_event_67 ?_
    refine k_iload_n hX (i := 3) rfl rfl dX7_event_68 ?_
    refine k_callVI (vs := [.int x3]) hX (fun _ h9 => m_X7_isThere hX.2.2.2.2.2.2.1  h9) io_218 rfl ml_X7_174 ⟨Nat.le_of_ble_eq_true rfl, Nat.le_of_ble_eq_true rfl⟩ rfl rfl (Nat.le_of_ble_eq_true rfl) dX7_event_69 (fun q7 => ?_)
    refine k_if_eq (tgt := 84) hX dX7_event_72 (by decide) (fun b8 => ?_) (fun b8 => ?_)
    · refine k_iconst (v := (nI 0)) hX rfl dX7_event_84 ?_
      exact w_X7_event_85 hX ih x1 x3 (nI 0) x2 q7.2 ⟨rfl, rfl, rfl, trivial⟩
    refine k_aload_n hX (i := 0) rfl rfl dX7_event_75 ?_
    refine k_iload_n hX (i := 3) rfl rfl dX7_event_76 ?_
    refine k_iload_n hX (i := 1) rfl rfl dX7_event_77 ?_
    refine k_callVI (vs := [.int x3, .int x1]) hX (fun _ h9 => m_X7_happens hX.2.2.2.2.2.2.1  h9) io_218 rfl ml_X7_194 ⟨Nat.le_of_ble_eq_true rfl, Nat.le_of_ble_eq_true rfl⟩ rfl rfl (Nat.le_of_ble_eq_true rfl) dX7_event_78 (fun q9 => ?_)
    refine k_goto (tgt := 85) hX dX7_event_81 (by decide) ?_
    exact w_X7_event_85 hX ih x1 x3 q9.1 x2 q9.2 ⟨rfl, rfl, rfl, trivial⟩
set_option maxHeartbeats 4000000 in
set_option maxRecDepth 100000 in
theorem w_X7_event {l : Launch} {G : GL} {ad : Nat → Nat} {MM : Mem} {X : CT} (hX : Cx l { frames := 11, cells := 0, slots := 0, locals := 261 } cX7_event RX7 4 (some .int) G ad X) {p1 : Int32} {M : Mem} : KF l { frames := 11, cells := 0, slots := 0, locals := 261 } 4 G ad (EM G ad MM) (QP PostI G ad (EM G ad MM)) X (f_X7_event p1 M) [some (.ref (ad 218)), some (.int p1), none, none] 0 [] M := by
  unfold f_X7_event
  refine k_iload_n hX (i := 1) rfl rfl dX7_event_0 ?_
  refine k_iconst (v := (nI 0)) hX rfl dX7_event_1 ?_
  refine k_bipush (v := (nI 63)) hX rfl dX7_event_2 ?_
  refine k_callSI (vs := [.int p1, .int (nI 0), .int (nI 63)]) hX (fun _ h9 => m_X7_in hX.2.2.2.2.2.2.1  h9) ml_X7_70 ⟨Nat.le_of_ble_eq_true rfl, Nat.le_of_ble_eq_true rfl⟩ rfl rfl (Nat.le_of_ble_eq_true rfl) dX7_event_4 (fun q1 => ?_)
  refine k_if_ne (tgt := 13) hX dX7_event_7 (by decide) (fun b2 => ?_) (fun b2 => ?_)
  · refine k_aload_n hX (i := 0) rfl rfl dX7_event_13 ?_
    refine k_get hX io_218 fl_X7_7 rfl dX7_event_14 ?_
    refine k_iconst (v := (nI 1)) hX rfl dX7_event_17 ?_
    refine k_ald hX ia_219 dX7_event_18 (fun v3 => ?_)
    refine k_iconst (v := (nI 1)) hX rfl dX7_event_19 ?_
    refine k_icmp_ne (tgt := 26) hX dX7_event_20 (by decide) (fun b4 => ?_) (fun b4 => ?_)
    · refine k_aload_n hX (i := 0) rfl rfl dX7_event_26 ?_
      refine k_get hX io_218 fl_X7_7 rfl dX7_event_27 ?_
      refine k_iconst (v := (nI 0)) hX rfl dX7_event_30 ?_
      refine k_ald hX ia_219 dX7_event_31 (fun v5 => ?_)
      refine k_bipush (v := (nI 40)) hX rfl dX7_event_32 ?_
      refine k_icmp_eq (tgt := 45) hX dX7_event_34 (by decide) (fun b6 => ?_) (fun b6 => ?_)
      · exact w_X7_event_45 hX q1.2 trivial
      refine k_aload_n hX (i := 0) rfl rfl dX7_event_37 ?_
      refine k_iload_n hX (i := 1) rfl rfl dX7_event_38 ?_
      refine k_callVI (vs := [.int p1]) hX (fun _ h9 => m_X7_isTooGreat hX.2.2.2.2.2.2.1  h9) io_218 rfl ml_X7_188 ⟨Nat.le_of_ble_eq_true rfl, Nat.le_of_ble_eq_true rfl⟩ rfl rfl (Nat.le_of_ble_eq_true rfl) dX7_event_39 (fun q7 => ?_)
      refine k_if_eq (tgt := 48) hX dX7_event_42 (by decide) (fun b8 => ?_) (fun b8 => ?_)
      · refine k_aload_n hX (i := 0) rfl rfl dX7_event_48 ?_
        refine k_callVV (vs := []) hX (fun _ h9 => m_X7_record hX.2.2.2.2.2.2.1  h9) io_218 rfl ml_X7_191 ⟨Nat.le_of_ble_eq_true rfl, Nat.le_of_ble_eq_true rfl⟩ rfl rfl (Nat.le_of_ble_eq_true rfl) dX7_event_49 (fun q9 => ?_)
        refine k_iconst (v := (nI 0)) hX rfl dX7_event_52 ?_
        refine k_istore_n (L' := [some (.ref (ad 218)), some (.int p1), some (.int (nI 0)), none]) hX (i := 2) rfl (by decide) rfl dX7_event_53 ?_
        refine k_iconst (v := (nI 0)) hX rfl dX7_event_54 ?_
        refine k_istore_n (L' := [some (.ref (ad 218)), some (.int p1), some (.int (nI 0)), some (.int (nI 0))]) hX (i := 3) rfl (by decide) rfl dX7_event_55 ?_
        exact w_X7_event_56 hX fuelN p1 (nI 0) (nI 0) q9.2 ⟨rfl, rfl, rfl, rfl, trivial⟩
      exact w_X7_event_45 hX q7.2 trivial
    refine k_bipush (v := (-4)) hX rfl dX7_event_23 ?_
    exact k_iret hX dX7_event_25
  refine k_bipush (v := (-2)) hX rfl dX7_event_10 ?_
  exact k_iret hX dX7_event_12
set_option maxRecDepth 100000 in
theorem m_X7_event {l : Launch} {G : GL} {ad : Nat → Nat} {MM : Mem} (hAd : AdOK G ad) {p1 : Int32} {M : Mem} {r : Rv} (h : f_X7_event p1 M = some r) : Ct PostI l G ad (EM G ad MM) yX7_event cX7_event 4 (some .int) 11 261 [.ref (ad 218), .int p1] M r := ct_of' hAd (by decide +kernel) (List.forall_mem_cons.mpr ⟨rfl, (List.forall_mem_cons.mpr ⟨rfl, (fun _ h => absurd h List.not_mem_nil)⟩)⟩) (Nat.le_of_ble_eq_true rfl) (L := [some (.ref (ad 218)), some (.int p1), none, none]) rfl (fun _ hX => w_X7_event hX) h
set_option maxHeartbeats 4000000 in
set_option maxRecDepth 100000 in
theorem w_X7_end_86 {l : Launch} {G : GL} {ad : Nat → Nat} {MM : Mem} {X : CT} (hX : Cx l { frames := 4, cells := 0, slots := 0, locals := 94 } cX7_end RX7 4 (some .int) G ad X) {k21 : Int32 → Int32 → Mem → Option Rv} (hk21 : ∀ (x1 : Int32) (x2 : Int32) (M : Mem) {L : List (Option Value)}, lsub [some (.ref (ad 218)), some (.int x1), some (.int x2), none] L → KF l { frames := 4, cells := 0, slots := 0, locals := 94 } 4 G ad (EM G ad MM) (QP PostI G ad (EM G ad MM)) X (k21 x1 x2 M) L 21 [] M) {k50 : Int32 → Int32 → Int32 → Mem → Option Rv} (hk50 : ∀ (x1 : Int32) (x2 : Int32) (x3 : Int32) (M : Mem) {L : List (Option Value)}, lsub [some (.ref (ad 218)), some (.int x1), some (.int x2), some (.int x3)] L → KF l { frames := 4, cells := 0, slots := 0, locals := 94 } 4 G ad (EM G ad MM) (QP PostI G ad (EM G ad MM)) X (k50 x1 x2 x3 M) L 50 [] M) : ∀ (x1 : Int32) (x2 : Int32) (x3 : Int32) (s0 : Int32) (s1 : Int32) (s2 : Int32) (M : Mem) {L : List (Option Value)}, lsub [some (.ref (ad 218)), some (.int x1), some (.int x2), some (.int x3)] L → KF l { frames := 4, cells := 0, slots := 0, locals := 94 } 4 G ad (EM G ad MM) (QP PostI G ad (EM G ad MM)) X (f_X7_end_86 k21 k50 x1 x2 x3 s0 s1 s2 M) L 86 [.int s0, .int s1, .int s2, .ref (ad 218)] M := by
  intro x1 x2 x3 s0 s1 s2 M L hL
  unfold f_X7_end_86
  refine KF.locals (lsub_le hL) ?_
  refine k_callVV (vs := [.int s2, .int s1, .int s0]) hX (fun _ h9 => m_X7_store hX.2.2.2.2.2.2.1  h9) io_218 rfl ml_X7_181 ⟨Nat.le_of_ble_eq_true rfl, Nat.le_of_ble_eq_true rfl⟩ rfl rfl (Nat.le_of_ble_eq_true rfl) dX7_end_86 (fun q1 => ?_)
  refine k_iinc (v := x3 + nI 1) (L' := [some (.ref (ad 218)), some (.int x1), some (.int x2), some (.int (x3 + nI 1))]) hX (i := 3) rfl rfl (by decide) rfl dX7_end_89 ?_
  refine k_goto (tgt := 50) hX dX7_end_92 (by decide) ?_
  exact hk50 x1 x2 (x3 + nI 1) q1.2 ⟨rfl, rfl, rfl, rfl, trivial⟩
set_option maxHeartbeats 4000000 in
set_option maxRecDepth 100000 in
theorem w_X7_end_119 {l : Launch} {G : GL} {ad : Nat → Nat} {MM : Mem} {X : CT} (hX : Cx l { frames := 4, cells := 0, slots := 0, locals := 94 } cX7_end RX7 4 (some .int) G ad X) {k21 : Int32 → Int32 → Mem → Option Rv} (hk21 : ∀ (x1 : Int32) (x2 : Int32) (M : Mem) {L : List (Option Value)}, lsub [some (.ref (ad 218)), some (.int x1), some (.int x2), none] L → KF l { frames := 4, cells := 0, slots := 0, locals := 94 } 4 G ad (EM G ad MM) (QP PostI G ad (EM G ad MM)) X (k21 x1 x2 M) L 21 [] M) : ∀ (x1 : Int32) (x2 : Int32) (M : Mem) {L : List (Option Value)}, lsub [some (.ref (ad 218)), some (.int x1), some (.int x2), none] L → KF l { frames := 4, cells := 0, slots := 0, locals := 94 } 4 G ad (EM G ad MM) (QP PostI G ad (EM G ad MM)) X (f_X7_end_119 k21 x1 x2 M) L 119 [] M := by
  intro x1 x2 M L hL
  unfold f_X7_end_119
  refine KF.locals (lsub_le hL) ?_
  refine k_iinc (v := x2 + nI 1) (L' := [some (.ref (ad 218)), some (.int x1), some (.int (x2 + nI 1)), none]) hX (i := 2) rfl rfl (by decide) rfl dX7_end_119 ?_
  refine k_goto (tgt := 21) hX dX7_end_122 (by decide) ?_
  exact hk21 x1 (x2 + nI 1) M ⟨rfl, rfl, rfl, trivial⟩
set_option maxHeartbeats 4000000 in
set_option maxRecDepth 100000 in
theorem w_X7_end_50 {l : Launch} {G : GL} {ad : Nat → Nat} {MM : Mem} {X : CT} (hX : Cx l { frames := 4, cells := 0, slots := 0, locals := 94 } cX7_end RX7 4 (some .int) G ad X) {k21 : Int32 → Int32 → Mem → Option Rv} (hk21 : ∀ (x1 : Int32) (x2 : Int32) (M : Mem) {L : List (Option Value)}, lsub [some (.ref (ad 218)), some (.int x1), some (.int x2), none] L → KF l { frames := 4, cells := 0, slots := 0, locals := 94 } 4 G ad (EM G ad MM) (QP PostI G ad (EM G ad MM)) X (k21 x1 x2 M) L 21 [] M) : ∀ (n : Nat), ∀ (x1 : Int32) (x2 : Int32) (x3 : Int32) (M : Mem) {L : List (Option Value)}, lsub [some (.ref (ad 218)), some (.int x1), some (.int x2), some (.int x3)] L → KF l { frames := 4, cells := 0, slots := 0, locals := 94 } 4 G ad (EM G ad MM) (QP PostI G ad (EM G ad MM)) X (f_X7_end_50 k21 n x1 x2 x3 M) L 50 [] M := by
  intro n
  induction n with
  | zero =>
    intro x1 x2 x3 M L hL
    exact KF.none'
  | succ n ih =>
    intro x1 x2 x3 M L hL
    rw [f_X7_end_50]
    refine KF.locals (lsub_le hL) ?_
    refine k_iload_n hX (i := 3) rfl rfl dX7_end_50 ?_
    refine k_aload_n hX (i := 0) rfl rfl dX7_end_51 ?_
    refine k_get hX io_218 fl_X7_7 rfl dX7_end_52 ?_
    refine k_iload_n hX (i := 2) rfl rfl dX7_end_55 ?_
    refine k_callSI (vs := [.int x2]) hX (fun _ h9 => m_X7_w hX.2.2.2.2.2.2.1  h9) ml_X7_74 ⟨Nat.le_of_ble_eq_true rfl, Nat.le_of_ble_eq_true rfl⟩ rfl rfl (Nat.le_of_ble_eq_true rfl) dX7_end_56 (fun q1 => ?_)
    refine k_iconst (v := (nI 5)) hX rfl dX7_end_59 ?_
    refine k_iadd hX dX7_end_60 ?_
    refine k_ald hX ia_219 dX7_end_61 (fun v2 => ?_)
    refine k_icmp_ge (tgt := 95) hX dX7_end_62 (by decide) (fun b3 => ?_) (fun b3 => ?_)
    · refine k_aload_n hX (i := 0) rfl rfl dX7_end_95 ?_
      refine k_get hX io_218 fl_X7_7 rfl dX7_end_96 ?_
      refine k_iload_n hX (i := 2) rfl rfl dX7_end_99 ?_
      refine k_callSI (vs := [.int x2]) hX (fun _ h9 => m_X7_w hX.2.2.2.2.2.2.1  h9) ml_X7_74 ⟨Nat.le_of_ble_eq_true rfl, Nat.le_of_ble_eq_true rfl⟩ rfl rfl (Nat.le_of_ble_eq_true rfl) dX7_end_100 (fun q4 => ?_)
      refine k_iconst (v := (nI 1)) hX rfl dX7_end_103 ?_
      refine k_iadd hX dX7_end_104 ?_
      refine k_aload_n hX (i := 0) rfl rfl dX7_end_105 ?_
      refine k_iload_n hX (i := 2) rfl rfl dX7_end_106 ?_
      refine k_callVI (vs := [.int x2]) hX (fun _ h9 => m_X7_verdictBy hX.2.2.2.2.2.2.1  h9) io_218 rfl ml_X7_185 ⟨Nat.le_of_ble_eq_true rfl, Nat.le_of_ble_eq_true rfl⟩ rfl rfl (Nat.le_of_ble_eq_true rfl) dX7_end_107 (fun q5 => ?_)
      refine k_ast hX locM ia_219 dX7_end_110 (fun M6 => ?_)
      refine k_iload_n hX (i := 1) rfl rfl dX7_end_111 ?_
      refine k_aload_n hX (i := 0) rfl rfl dX7_end_112 ?_
      refine k_iload_n hX (i := 2) rfl rfl dX7_end_113 ?_
      refine k_callVI (vs := [.int x2]) hX (fun _ h9 => m_X7_verdict hX.2.2.2.2.2.2.1  h9) io_218 rfl ml_X7_162 ⟨Nat.le_of_ble_eq_true rfl, Nat.le_of_ble_eq_true rfl⟩ rfl rfl (Nat.le_of_ble_eq_true rfl) dX7_end_114 (fun q7 => ?_)
      refine k_iadd hX dX7_end_117 ?_
      refine k_istore_n (L' := [some (.ref (ad 218)), some (.int (x1 + q7.1)), some (.int x2), some (.int x3)]) hX (i := 1) rfl (by decide) rfl dX7_end_118 ?_
      exact w_X7_end_119 hX hk21 (x1 + q7.1) x2 q7.2 ⟨rfl, rfl, rfl, trivial⟩
    refine k_aload_n hX (i := 0) rfl rfl dX7_end_65 ?_
    refine k_iload_n hX (i := 2) rfl rfl dX7_end_66 ?_
    refine k_iload_n hX (i := 3) rfl rfl dX7_end_67 ?_
    refine k_aload_n hX (i := 0) rfl rfl dX7_end_68 ?_
    refine k_aload_n hX (i := 0) rfl rfl dX7_end_69 ?_
    refine k_iload_n hX (i := 2) rfl rfl dX7_end_70 ?_
    refine k_iload_n hX (i := 3) rfl rfl dX7_end_71 ?_
    refine k_callVI (vs := [.int x2, .int x3]) hX (fun _ h9 => m_X7_loadAlone hX.2.2.2.2.2.2.1  h9) io_218 rfl ml_X7_165 ⟨Nat.le_of_ble_eq_true rfl, Nat.le_of_ble_eq_true rfl⟩ rfl rfl (Nat.le_of_ble_eq_true rfl) dX7_end_72 (fun q8 => ?_)
    refine k_callVI (vs := [.int q8.1]) hX (fun _ h9 => m_X7_isTrue hX.2.2.2.2.2.2.1  h9) io_218 rfl ml_X7_197 ⟨Nat.le_of_ble_eq_true rfl, Nat.le_of_ble_eq_true rfl⟩ rfl rfl (Nat.le_of_ble_eq_true rfl) dX7_end_75 (fun q9 => ?_)
    refine k_if_eq (tgt := 85) hX dX7_end_78 (by decide) (fun b10 => ?_) (fun b10 => ?_)
    · refine k_iconst (v := (nI 0)) hX rfl dX7_end_85 ?_
      exact w_X7_end_86 hX hk21 ih x1 x2 x3 (nI 0) x3 x2 q9.2 ⟨rfl, rfl, rfl, rfl, trivial⟩
    refine k_iconst (v := (nI 1)) hX rfl dX7_end_81 ?_
    refine k_goto (tgt := 86) hX dX7_end_82 (by decide) ?_
    exact w_X7_end_86 hX hk21 ih x1 x2 x3 (nI 1) x3 x2 q9.2 ⟨rfl, rfl, rfl, rfl, trivial⟩
set_option maxHeartbeats 4000000 in
set_option maxRecDepth 100000 in
theorem w_X7_end_21 {l : Launch} {G : GL} {ad : Nat → Nat} {MM : Mem} {X : CT} (hX : Cx l { frames := 4, cells := 0, slots := 0, locals := 94 } cX7_end RX7 4 (some .int) G ad X) : ∀ (n : Nat), ∀ (x1 : Int32) (x2 : Int32) (M : Mem) {L : List (Option Value)}, lsub [some (.ref (ad 218)), some (.int x1), some (.int x2), none] L → KF l { frames := 4, cells := 0, slots := 0, locals := 94 } 4 G ad (EM G ad MM) (QP PostI G ad (EM G ad MM)) X (f_X7_end_21 n x1 x2 M) L 21 [] M := by
  intro n
  induction n with
  | zero =>
    intro x1 x2 M L hL
    exact KF.none'
  | succ n ih =>
    intro x1 x2 M L hL
    rw [f_X7_end_21]
    refine KF.locals (lsub_le hL) ?_
    refine k_iload_n hX (i := 2) rfl rfl dX7_end_21 ?_
    refine k_aload_n hX (i := 0) rfl rfl dX7_end_22 ?_
    refine k_get hX io_218 fl_X7_7 rfl dX7_end_23 ?_
    refine k_iconst (v := (nI 2)) hX rfl dX7_end_26 ?_
    refine k_ald hX ia_219 dX7_end_27 (fun v1 => ?_)
    refine k_icmp_ge (tgt := 125) hX dX7_end_28 (by decide) (fun b2 => ?_) (fun b2 => ?_)
    · refine k_aload_n hX (i := 0) rfl rfl dX7_end_125 ?_
      refine k_get hX io_218 fl_X7_7 rfl dX7_end_126 ?_
      refine k_iconst (v := (nI 1)) hX rfl dX7_end_129 ?_
      refine k_iconst (v := (nI 1)) hX rfl dX7_end_130 ?_
      refine k_ast hX locM ia_219 dX7_end_131 (fun M3 => ?_)
      refine k_iload_n hX (i := 1) rfl rfl dX7_end_132 ?_
      exact k_iret hX dX7_end_133
    refine k_aload_n hX (i := 0) rfl rfl dX7_end_31 ?_
    refine k_iload_n hX (i := 2) rfl rfl dX7_end_32 ?_
    refine k_callVI (vs := [.int x2]) hX (fun _ h9 => m_X7_isThere hX.2.2.2.2.2.2.1  h9) io_218 rfl ml_X7_174 ⟨Nat.le_of_ble_eq_true rfl, Nat.le_of_ble_eq_true rfl⟩ rfl rfl (Nat.le_of_ble_eq_true rfl) dX7_end_33 (fun q4 => ?_)
    refine k_if_eq (tgt := 119) hX dX7_end_36 (by decide) (fun b5 => ?_) (fun b5 => ?_)
    · exact w_X7_end_119 hX ih x1 x2 q4.2 ⟨rfl, rfl, rfl, trivial⟩
    refine k_aload_n hX (i := 0) rfl rfl dX7_end_39 ?_
    refine k_iload_n hX (i := 2) rfl rfl dX7_end_40 ?_
    refine k_callVI (vs := [.int x2]) hX (fun _ h9 => m_X7_verdict hX.2.2.2.2.2.2.1  h9) io_218 rfl ml_X7_162 ⟨Nat.le_of_ble_eq_true rfl, Nat.le_of_ble_eq_true rfl⟩ rfl rfl (Nat.le_of_ble_eq_true rfl) dX7_end_41 (fun q6 => ?_)
    refine k_iconst (v := (nI 2)) hX rfl dX7_end_44 ?_
    refine k_icmp_ne (tgt := 119) hX dX7_end_45 (by decide) (fun b7 => ?_) (fun b7 => ?_)
    · exact w_X7_end_119 hX ih x1 x2 q6.2 ⟨rfl, rfl, rfl, trivial⟩
    refine k_iconst (v := (nI 0)) hX rfl dX7_end_48 ?_
    refine k_istore_n (L' := [some (.ref (ad 218)), some (.int x1), some (.int x2), some (.int (nI 0))]) hX (i := 3) rfl (by decide) rfl dX7_end_49 ?_
    exact w_X7_end_50 hX ih fuelN x1 x2 (nI 0) q6.2 ⟨rfl, rfl, rfl, rfl, trivial⟩
set_option maxHeartbeats 4000000 in
set_option maxRecDepth 100000 in
theorem w_X7_end {l : Launch} {G : GL} {ad : Nat → Nat} {MM : Mem} {X : CT} (hX : Cx l { frames := 4, cells := 0, slots := 0, locals := 94 } cX7_end RX7 4 (some .int) G ad X) {M : Mem} : KF l { frames := 4, cells := 0, slots := 0, locals := 94 } 4 G ad (EM G ad MM) (QP PostI G ad (EM G ad MM)) X (f_X7_end M) [some (.ref (ad 218)), none, none, none] 0 [] M := by
  unfold f_X7_end
  refine k_aload_n hX (i := 0) rfl rfl dX7_end_0 ?_
  refine k_get hX io_218 fl_X7_7 rfl dX7_end_1 ?_
  refine k_iconst (v := (nI 1)) hX rfl dX7_end_4 ?_
  refine k_ald hX ia_219 dX7_end_5 (fun v1 => ?_)
  refine k_iconst (v := (nI 1)) hX rfl dX7_end_6 ?_
  refine k_icmp_ne (tgt := 13) hX dX7_end_7 (by decide) (fun b2 => ?_) (fun b2 => ?_)
  · refine k_aload_n hX (i := 0) rfl rfl dX7_end_13 ?_
    refine k_callVV (vs := []) hX (fun _ h9 => m_X7_record hX.2.2.2.2.2.2.1  h9) io_218 rfl ml_X7_191 ⟨Nat.le_of_ble_eq_true rfl, Nat.le_of_ble_eq_true rfl⟩ rfl rfl (Nat.le_of_ble_eq_true rfl) dX7_end_14 (fun q3 => ?_)
    refine k_iconst (v := (nI 0)) hX rfl dX7_end_17 ?_
    refine k_istore_n (L' := [some (.ref (ad 218)), some (.int (nI 0)), none, none]) hX (i := 1) rfl (by decide) rfl dX7_end_18 ?_
    refine k_iconst (v := (nI 0)) hX rfl dX7_end_19 ?_
    refine k_istore_n (L' := [some (.ref (ad 218)), some (.int (nI 0)), some (.int (nI 0)), none]) hX (i := 2) rfl (by decide) rfl dX7_end_20 ?_
    exact w_X7_end_21 hX fuelN (nI 0) (nI 0) q3.2 ⟨rfl, rfl, rfl, trivial⟩
  refine k_bipush (v := (-4)) hX rfl dX7_end_10 ?_
  exact k_iret hX dX7_end_12
set_option maxRecDepth 100000 in
theorem m_X7_end {l : Launch} {G : GL} {ad : Nat → Nat} {MM : Mem} (hAd : AdOK G ad) {M : Mem} {r : Rv} (h : f_X7_end M = some r) : Ct PostI l G ad (EM G ad MM) yX7_end cX7_end 4 (some .int) 4 94 [.ref (ad 218)] M r := ct_of' hAd (by decide +kernel) (List.forall_mem_cons.mpr ⟨rfl, (fun _ h => absurd h List.not_mem_nil)⟩) (Nat.le_of_ble_eq_true rfl) (L := [some (.ref (ad 218)), none, none, none]) rfl (fun _ hX => w_X7_end hX) h
set_option maxHeartbeats 4000000 in
set_option maxRecDepth 100000 in
theorem w_X7_isThing_29 {l : Launch} {G : GL} {ad : Nat → Nat} {MM : Mem} {X : CT} (hX : Cx l { frames := 0, cells := 0, slots := 0, locals := 0 } cX7_isThing RX7 1 (some .boolean) G ad X) : ∀ (s0 : Int32) (M : Mem) {L : List (Option Value)}, lsub [none] L → KF l { frames := 0, cells := 0, slots := 0, locals := 0 } 1 G ad (EM G ad MM) (QP PostI G ad (EM G ad MM)) X (f_X7_isThing_29 s0 M) L 29 [.int s0] M := by
  intro s0 M L hL
  unfold f_X7_isThing_29
  refine KF.locals (lsub_le hL) ?_
  exact k_zret hX dX7_isThing_29
set_option maxHeartbeats 4000000 in
set_option maxRecDepth 100000 in
theorem w_X7_isThing_24 {l : Launch} {G : GL} {ad : Nat → Nat} {MM : Mem} {X : CT} (hX : Cx l { frames := 0, cells := 0, slots := 0, locals := 0 } cX7_isThing RX7 1 (some .boolean) G ad X) : ∀ (M : Mem) {L : List (Option Value)}, lsub [none] L → KF l { frames := 0, cells := 0, slots := 0, locals := 0 } 1 G ad (EM G ad MM) (QP PostI G ad (EM G ad MM)) X (f_X7_isThing_24 M) L 24 [] M := by
  intro M L hL
  unfold f_X7_isThing_24
  refine KF.locals (lsub_le hL) ?_
  refine k_iconst (v := (nI 1)) hX rfl dX7_isThing_24 ?_
  refine k_goto (tgt := 29) hX dX7_isThing_25 (by decide) ?_
  exact w_X7_isThing_29 hX (nI 1) M trivial
set_option maxHeartbeats 4000000 in
set_option maxRecDepth 100000 in
theorem w_X7_isThing_12 {l : Launch} {G : GL} {ad : Nat → Nat} {MM : Mem} {X : CT} (hX : Cx l { frames := 0, cells := 0, slots := 0, locals := 0 } cX7_isThing RX7 1 (some .boolean) G ad X) : ∀ (x0 : Int32) (M : Mem) {L : List (Option Value)}, lsub [some (.int x0)] L → KF l { frames := 0, cells := 0, slots := 0, locals := 0 } 1 G ad (EM G ad MM) (QP PostI G ad (EM G ad MM)) X (f_X7_isThing_12 x0 M) L 12 [] M := by
  intro x0 M L hL
  unfold f_X7_isThing_12
  refine KF.locals (lsub_le hL) ?_
  refine k_iload_n hX (i := 0) rfl rfl dX7_isThing_12 ?_
  refine k_bipush (v := (nI 49)) hX rfl dX7_isThing_13 ?_
  refine k_icmp_eq (tgt := 24) hX dX7_isThing_15 (by decide) (fun b1 => ?_) (fun b1 => ?_)
  · exact w_X7_isThing_24 hX M trivial
  refine k_iload_n hX (i := 0) rfl rfl dX7_isThing_18 ?_
  refine k_bipush (v := (nI 48)) hX rfl dX7_isThing_19 ?_
  refine k_icmp_ne (tgt := 28) hX dX7_isThing_21 (by decide) (fun b2 => ?_) (fun b2 => ?_)
  · refine k_iconst (v := (nI 0)) hX rfl dX7_isThing_28 ?_
    exact w_X7_isThing_29 hX (nI 0) M trivial
  exact w_X7_isThing_24 hX M trivial
set_option maxHeartbeats 4000000 in
set_option maxRecDepth 100000 in
theorem w_X7_isThing {l : Launch} {G : GL} {ad : Nat → Nat} {MM : Mem} {X : CT} (hX : Cx l { frames := 0, cells := 0, slots := 0, locals := 0 } cX7_isThing RX7 1 (some .boolean) G ad X) {p1 : Int32} {M : Mem} : KF l { frames := 0, cells := 0, slots := 0, locals := 0 } 1 G ad (EM G ad MM) (QP PostI G ad (EM G ad MM)) X (f_X7_isThing p1 M) [some (.int p1)] 0 [] M := by
  unfold f_X7_isThing
  refine k_iload_n hX (i := 0) rfl rfl dX7_isThing_0 ?_
  refine k_bipush (v := (nI 97)) hX rfl dX7_isThing_1 ?_
  refine k_icmp_lt (tgt := 12) hX dX7_isThing_3 (by decide) (fun b1 => ?_) (fun b1 => ?_)
  · exact w_X7_isThing_12 hX p1 M ⟨rfl, trivial⟩
  refine k_iload_n hX (i := 0) rfl rfl dX7_isThing_6 ?_
  refine k_bipush (v := (nI 102)) hX rfl dX7_isThing_7 ?_
  refine k_icmp_le (tgt := 24) hX dX7_isThing_9 (by decide) (fun b2 => ?_) (fun b2 => ?_)
  · exact w_X7_isThing_24 hX M trivial
  exact w_X7_isThing_12 hX p1 M ⟨rfl, trivial⟩
set_option maxRecDepth 100000 in
theorem m_X7_isThing {l : Launch} {G : GL} {ad : Nat → Nat} {MM : Mem} (hAd : AdOK G ad) {p1 : Int32} {M : Mem} {r : Rv} (h : f_X7_isThing p1 M = some r) : Ct PostI l G ad (EM G ad MM) yX7_isThing cX7_isThing 1 (some .boolean) 0 0 [.int p1] M r := ct_of' hAd (by decide +kernel) (List.forall_mem_cons.mpr ⟨rfl, (fun _ h => absurd h List.not_mem_nil)⟩) (Nat.le_of_ble_eq_true rfl) (L := [some (.int p1)]) rfl (fun _ hX => w_X7_isThing hX) h
set_option maxHeartbeats 4000000 in
set_option maxRecDepth 100000 in
theorem w_X7_isAheadSign_35 {l : Launch} {G : GL} {ad : Nat → Nat} {MM : Mem} {X : CT} (hX : Cx l { frames := 0, cells := 0, slots := 0, locals := 0 } cX7_isAheadSign RX7 1 (some .boolean) G ad X) : ∀ (s0 : Int32) (M : Mem) {L : List (Option Value)}, lsub [none] L → KF l { frames := 0, cells := 0, slots := 0, locals := 0 } 1 G ad (EM G ad MM) (QP PostI G ad (EM G ad MM)) X (f_X7_isAheadSign_35 s0 M) L 35 [.int s0] M := by
  intro s0 M L hL
  unfold f_X7_isAheadSign_35
  refine KF.locals (lsub_le hL) ?_
  exact k_zret hX dX7_isAheadSign_35
set_option maxHeartbeats 4000000 in
set_option maxRecDepth 100000 in
theorem w_X7_isAheadSign_30 {l : Launch} {G : GL} {ad : Nat → Nat} {MM : Mem} {X : CT} (hX : Cx l { frames := 0, cells := 0, slots := 0, locals := 0 } cX7_isAheadSign RX7 1 (some .boolean) G ad X) : ∀ (M : Mem) {L : List (Option Value)}, lsub [none] L → KF l { frames := 0, cells := 0, slots := 0, locals := 0 } 1 G ad (EM G ad MM) (QP PostI G ad (EM G ad MM)) X (f_X7_isAheadSign_30 M) L 30 [] M := by
  intro M L hL
  unfold f_X7_isAheadSign_30
  refine KF.locals (lsub_le hL) ?_
  refine k_iconst (v := (nI 1)) hX rfl dX7_isAheadSign_30 ?_
  refine k_goto (tgt := 35) hX dX7_isAheadSign_31 (by decide) ?_
  exact w_X7_isAheadSign_35 hX (nI 1) M trivial
set_option maxHeartbeats 4000000 in
set_option maxRecDepth 100000 in
theorem w_X7_isAheadSign {l : Launch} {G : GL} {ad : Nat → Nat} {MM : Mem} {X : CT} (hX : Cx l { frames := 0, cells := 0, slots := 0, locals := 0 } cX7_isAheadSign RX7 1 (some .boolean) G ad X) {p1 : Int32} {M : Mem} : KF l { frames := 0, cells := 0, slots := 0, locals := 0 } 1 G ad (EM G ad MM) (QP PostI G ad (EM G ad MM)) X (f_X7_isAheadSign p1 M) [some (.int p1)] 0 [] M := by
  unfold f_X7_isAheadSign
  refine k_iload_n hX (i := 0) rfl rfl dX7_isAheadSign_0 ?_
  refine k_bipush (v := (nI 33)) hX rfl dX7_isAheadSign_1 ?_
  refine k_icmp_eq (tgt := 30) hX dX7_isAheadSign_3 (by decide) (fun b1 => ?_) (fun b1 => ?_)
  · exact w_X7_isAheadSign_30 hX M trivial
  refine k_iload_n hX (i := 0) rfl rfl dX7_isAheadSign_6 ?_
  refine k_bipush (v := (nI 88)) hX rfl dX7_isAheadSign_7 ?_
  refine k_icmp_eq (tgt := 30) hX dX7_isAheadSign_9 (by decide) (fun b2 => ?_) (fun b2 => ?_)
  · exact w_X7_isAheadSign_30 hX M trivial
  refine k_iload_n hX (i := 0) rfl rfl dX7_isAheadSign_12 ?_
  refine k_bipush (v := (nI 78)) hX rfl dX7_isAheadSign_13 ?_
  refine k_icmp_eq (tgt := 30) hX dX7_isAheadSign_15 (by decide) (fun b3 => ?_) (fun b3 => ?_)
  · exact w_X7_isAheadSign_30 hX M trivial
  refine k_iload_n hX (i := 0) rfl rfl dX7_isAheadSign_18 ?_
  refine k_bipush (v := (nI 71)) hX rfl dX7_isAheadSign_19 ?_
  refine k_icmp_eq (tgt := 30) hX dX7_isAheadSign_21 (by decide) (fun b4 => ?_) (fun b4 => ?_)
  · exact w_X7_isAheadSign_30 hX M trivial
  refine k_iload_n hX (i := 0) rfl rfl dX7_isAheadSign_24 ?_
  refine k_bipush (v := (nI 70)) hX rfl dX7_isAheadSign_25 ?_
  refine k_icmp_ne (tgt := 34) hX dX7_isAheadSign_27 (by decide) (fun b5 => ?_) (fun b5 => ?_)
  · refine k_iconst (v := (nI 0)) hX rfl dX7_isAheadSign_34 ?_
    exact w_X7_isAheadSign_35 hX (nI 0) M trivial
  exact w_X7_isAheadSign_30 hX M trivial
set_option maxRecDepth 100000 in
theorem m_X7_isAheadSign {l : Launch} {G : GL} {ad : Nat → Nat} {MM : Mem} (hAd : AdOK G ad) {p1 : Int32} {M : Mem} {r : Rv} (h : f_X7_isAheadSign p1 M = some r) : Ct PostI l G ad (EM G ad MM) yX7_isAheadSign cX7_isAheadSign 1 (some .boolean) 0 0 [.int p1] M r := ct_of' hAd (by decide +kernel) (List.forall_mem_cons.mpr ⟨rfl, (fun _ h => absurd h List.not_mem_nil)⟩) (Nat.le_of_ble_eq_true rfl) (L := [some (.int p1)]) rfl (fun _ hX => w_X7_isAheadSign hX) h
set_option maxHeartbeats 4000000 in
set_option maxRecDepth 100000 in
theorem w_X7_rank_37 {l : Launch} {G : GL} {ad : Nat → Nat} {MM : Mem} {X : CT} (hX : Cx l { frames := 0, cells := 0, slots := 0, locals := 0 } cX7_rank RX7 1 (some .int) G ad X) : ∀ (s0 : Int32) (M : Mem) {L : List (Option Value)}, lsub [none] L → KF l { frames := 0, cells := 0, slots := 0, locals := 0 } 1 G ad (EM G ad MM) (QP PostI G ad (EM G ad MM)) X (f_X7_rank_37 s0 M) L 37 [.int s0] M := by
  intro s0 M L hL
  unfold f_X7_rank_37
  refine KF.locals (lsub_le hL) ?_
  exact k_iret hX dX7_rank_37
set_option maxHeartbeats 4000000 in
set_option maxRecDepth 100000 in
theorem w_X7_rank_32 {l : Launch} {G : GL} {ad : Nat → Nat} {MM : Mem} {X : CT} (hX : Cx l { frames := 0, cells := 0, slots := 0, locals := 0 } cX7_rank RX7 1 (some .int) G ad X) : ∀ (M : Mem) {L : List (Option Value)}, lsub [none] L → KF l { frames := 0, cells := 0, slots := 0, locals := 0 } 1 G ad (EM G ad MM) (QP PostI G ad (EM G ad MM)) X (f_X7_rank_32 M) L 32 [] M := by
  intro M L hL
  unfold f_X7_rank_32
  refine KF.locals (lsub_le hL) ?_
  refine k_iconst (v := (nI 3)) hX rfl dX7_rank_32 ?_
  refine k_goto (tgt := 37) hX dX7_rank_33 (by decide) ?_
  exact w_X7_rank_37 hX (nI 3) M trivial
set_option maxHeartbeats 4000000 in
set_option maxRecDepth 100000 in
theorem w_X7_rank {l : Launch} {G : GL} {ad : Nat → Nat} {MM : Mem} {X : CT} (hX : Cx l { frames := 0, cells := 0, slots := 0, locals := 0 } cX7_rank RX7 1 (some .int) G ad X) {p1 : Int32} {M : Mem} : KF l { frames := 0, cells := 0, slots := 0, locals := 0 } 1 G ad (EM G ad MM) (QP PostI G ad (EM G ad MM)) X (f_X7_rank p1 M) [some (.int p1)] 0 [] M := by
  unfold f_X7_rank
  refine k_iload_n hX (i := 0) rfl rfl dX7_rank_0 ?_
  refine k_bipush (v := (nI 124)) hX rfl dX7_rank_1 ?_
  refine k_icmp_ne (tgt := 10) hX dX7_rank_3 (by decide) (fun b1 => ?_) (fun b1 => ?_)
  · refine k_iload_n hX (i := 0) rfl rfl dX7_rank_10 ?_
    refine k_bipush (v := (nI 38)) hX rfl dX7_rank_11 ?_
    refine k_icmp_ne (tgt := 20) hX dX7_rank_13 (by decide) (fun b2 => ?_) (fun b2 => ?_)
    · refine k_iload_n hX (i := 0) rfl rfl dX7_rank_20 ?_
      refine k_bipush (v := (nI 85)) hX rfl dX7_rank_21 ?_
      refine k_icmp_eq (tgt := 32) hX dX7_rank_23 (by decide) (fun b3 => ?_) (fun b3 => ?_)
      · exact w_X7_rank_32 hX M trivial
      refine k_iload_n hX (i := 0) rfl rfl dX7_rank_26 ?_
      refine k_bipush (v := (nI 82)) hX rfl dX7_rank_27 ?_
      refine k_icmp_ne (tgt := 36) hX dX7_rank_29 (by decide) (fun b4 => ?_) (fun b4 => ?_)
      · refine k_iconst (v := (nI 0)) hX rfl dX7_rank_36 ?_
        exact w_X7_rank_37 hX (nI 0) M trivial
      exact w_X7_rank_32 hX M trivial
    refine k_iconst (v := (nI 2)) hX rfl dX7_rank_16 ?_
    refine k_goto (tgt := 37) hX dX7_rank_17 (by decide) ?_
    exact w_X7_rank_37 hX (nI 2) M trivial
  refine k_iconst (v := (nI 1)) hX rfl dX7_rank_6 ?_
  refine k_goto (tgt := 37) hX dX7_rank_7 (by decide) ?_
  exact w_X7_rank_37 hX (nI 1) M trivial
set_option maxRecDepth 100000 in
theorem m_X7_rank {l : Launch} {G : GL} {ad : Nat → Nat} {MM : Mem} (hAd : AdOK G ad) {p1 : Int32} {M : Mem} {r : Rv} (h : f_X7_rank p1 M = some r) : Ct PostI l G ad (EM G ad MM) yX7_rank cX7_rank 1 (some .int) 0 0 [.int p1] M r := ct_of' hAd (by decide +kernel) (List.forall_mem_cons.mpr ⟨rfl, (fun _ h => absurd h List.not_mem_nil)⟩) (Nat.le_of_ble_eq_true rfl) (L := [some (.int p1)]) rfl (fun _ hX => w_X7_rank hX) h
set_option maxHeartbeats 4000000 in
set_option maxRecDepth 100000 in
theorem w_X7_faultOf_153 {l : Launch} {G : GL} {ad : Nat → Nat} {MM : Mem} {X : CT} (hX : Cx l { frames := 1, cells := 0, slots := 0, locals := 20 } cX7_faultOf RX7 6 (some .int) G ad X) {k6 : Int32 → Int32 → Int32 → Mem → Option Rv} (hk6 : ∀ (x1 : Int32) (x2 : Int32) (x3 : Int32) (M : Mem) {L : List (Option Value)}, lsub [some (.ref (ad 218)), some (.int x1), some (.int x2), some (.int x3), none, none] L → KF l { frames := 1, cells := 0, slots := 0, locals := 20 } 6 G ad (EM G ad MM) (QP PostI G ad (EM G ad MM)) X (k6 x1 x2 x3 M) L 6 [] M) : ∀ (x1 : Int32) (x3 : Int32) (s0 : Int32) (M : Mem) {L : List (Option Value)}, lsub [some (.ref (ad 218)), some (.int x1), none, some (.int x3), none, none] L → KF l { frames := 1, cells := 0, slots := 0, locals := 20 } 6 G ad (EM G ad MM) (QP PostI G ad (EM G ad MM)) X (f_X7_faultOf_153 k6 x1 x3 s0 M) L 153 [.int s0] M := by
  intro x1 x3 s0 M L hL
  unfold f_X7_faultOf_153
  refine KF.locals (lsub_le hL) ?_
  refine k_istore_n (L' := [some (.ref (ad 218)), some (.int x1), some (.int s0), some (.int x3), none, none]) hX (i := 2) rfl (by decide) rfl dX7_faultOf_153 ?_
  refine k_iinc (v := x3 + nI 1) (L' := [some (.ref (ad 218)), some (.int x1), some (.int s0), some (.int (x3 + nI 1)), none, none]) hX (i := 3) rfl rfl (by decide) rfl dX7_faultOf_154 ?_
  refine k_goto (tgt := 6) hX dX7_faultOf_157 (by decide) ?_
  exact hk6 x1 s0 (x3 + nI 1) M ⟨rfl, rfl, rfl, rfl, trivial⟩
set_option maxHeartbeats 4000000 in
set_option maxRecDepth 100000 in
theorem w_X7_faultOf_119 {l : Launch} {G : GL} {ad : Nat → Nat} {MM : Mem} {X : CT} (hX : Cx l { frames := 1, cells := 0, slots := 0, locals := 20 } cX7_faultOf RX7 6 (some .int) G ad X) {k6 : Int32 → Int32 → Int32 → Mem → Option Rv} (hk6 : ∀ (x1 : Int32) (x2 : Int32) (x3 : Int32) (M : Mem) {L : List (Option Value)}, lsub [some (.ref (ad 218)), some (.int x1), some (.int x2), some (.int x3), none, none] L → KF l { frames := 1, cells := 0, slots := 0, locals := 20 } 6 G ad (EM G ad MM) (QP PostI G ad (EM G ad MM)) X (k6 x1 x2 x3 M) L 6 [] M) : ∀ (x2 : Int32) (x3 : Int32) (x4 : Int32) (s0 : Int32) (s1 : Int32) (M : Mem) {L : List (Option Value)}, lsub [some (.ref (ad 218)), none, some (.int x2), some (.int x3), some (.int x4), none] L → KF l { frames := 1, cells := 0, slots := 0, locals := 20 } 6 G ad (EM G ad MM) (QP PostI G ad (EM G ad MM)) X (f_X7_faultOf_119 k6 x2 x3 x4 s0 s1 M) L 119 [.int s0, .int s1] M := by
  intro x2 x3 x4 s0 s1 M L hL
  unfold f_X7_faultOf_119
  refine KF.locals (lsub_le hL) ?_
  refine k_iadd hX dX7_faultOf_119 ?_
  refine k_istore_n (L' := [some (.ref (ad 218)), some (.int (s1 + s0)), some (.int x2), some (.int x3), some (.int x4), none]) hX (i := 1) rfl (by decide) rfl dX7_faultOf_120 ?_
  refine k_iload_n hX (i := 2) rfl rfl dX7_faultOf_121 ?_
  refine k_if_eq (tgt := 141) hX dX7_faultOf_122 (by decide) (fun b1 => ?_) (fun b1 => ?_)
  · refine k_iload hX rfl dX7_faultOf_141 ?_
    refine k_bipush (v := (nI 41)) hX rfl dX7_faultOf_143 ?_
    refine k_icmp_eq (tgt := 152) hX dX7_faultOf_145 (by decide) (fun b2 => ?_) (fun b2 => ?_)
    · refine k_iconst (v := (nI 0)) hX rfl dX7_faultOf_152 ?_
      exact w_X7_faultOf_153 hX hk6 (s1 + s0) x3 (nI 0) M ⟨rfl, rfl, rfl, trivial⟩
    refine k_iconst (v := (nI 1)) hX rfl dX7_faultOf_148 ?_
    refine k_goto (tgt := 153) hX dX7_faultOf_149 (by decide) ?_
    exact w_X7_faultOf_153 hX hk6 (s1 + s0) x3 (nI 1) M ⟨rfl, rfl, rfl, trivial⟩
  refine k_iload hX rfl dX7_faultOf_125 ?_
  refine k_callSI (vs := [.int x4]) hX (fun _ h9 => m_X7_isThing hX.2.2.2.2.2.2.1  h9) ml_X7_203 ⟨Nat.le_of_ble_eq_true rfl, Nat.le_of_ble_eq_true rfl⟩ rfl rfl (Nat.le_of_ble_eq_true rfl) dX7_faultOf_127 (fun q3 => ?_)
  refine k_if_ne (tgt := 137) hX dX7_faultOf_130 (by decide) (fun b4 => ?_) (fun b4 => ?_)
  · refine k_iconst (v := (nI 0)) hX rfl dX7_faultOf_137 ?_
    refine k_goto (tgt := 153) hX dX7_faultOf_138 (by decide) ?_
    exact w_X7_faultOf_153 hX hk6 (s1 + s0) x3 (nI 0) q3.2 ⟨rfl, rfl, rfl, trivial⟩
  refine k_iconst (v := (nI 1)) hX rfl dX7_faultOf_133 ?_
  refine k_goto (tgt := 153) hX dX7_faultOf_134 (by decide) ?_
  exact w_X7_faultOf_153 hX hk6 (s1 + s0) x3 (nI 1) q3.2 ⟨rfl, rfl, rfl, trivial⟩
set_option maxHeartbeats 4000000 in
set_option maxRecDepth 100000 in
theorem w_X7_faultOf_86 {l : Launch} {G : GL} {ad : Nat → Nat} {MM : Mem} {X : CT} (hX : Cx l { frames := 1, cells := 0, slots := 0, locals := 20 } cX7_faultOf RX7 6 (some .int) G ad X) {k6 : Int32 → Int32 → Int32 → Mem → Option Rv} (hk6 : ∀ (x1 : Int32) (x2 : Int32) (x3 : Int32) (M : Mem) {L : List (Option Value)}, lsub [some (.ref (ad 218)), some (.int x1), some (.int x2), some (.int x3), none, none] L → KF l { frames := 1, cells := 0, slots := 0, locals := 20 } 6 G ad (EM G ad MM) (QP PostI G ad (EM G ad MM)) X (k6 x1 x2 x3 M) L 6 [] M) : ∀ (x1 : Int32) (x2 : Int32) (x3 : Int32) (x4 : Int32) (s0 : Int32) (M : Mem) {L : List (Option Value)}, lsub [some (.ref (ad 218)), some (.int x1), some (.int x2), some (.int x3), some (.int x4), none] L → KF l { frames := 1, cells := 0, slots := 0, locals := 20 } 6 G ad (EM G ad MM) (QP PostI G ad (EM G ad MM)) X (f_X7_faultOf_86 k6 x1 x2 x3 x4 s0 M) L 86 [.int s0] M := by
  intro x1 x2 x3 x4 s0 M L hL
  unfold f_X7_faultOf_86
  refine KF.locals (lsub_le hL) ?_
  refine k_istore (L' := [some (.ref (ad 218)), some (.int x1), some (.int x2), some (.int x3), some (.int x4), some (.int s0)]) hX (by decide) rfl dX7_faultOf_86 ?_
  refine k_iload hX rfl dX7_faultOf_88 ?_
  refine k_if_ne (tgt := 95) hX dX7_faultOf_90 (by decide) (fun b1 => ?_) (fun b1 => ?_)
  · refine k_iload_n hX (i := 1) rfl rfl dX7_faultOf_95 ?_
    refine k_iload hX rfl dX7_faultOf_96 ?_
    refine k_bipush (v := (nI 40)) hX rfl dX7_faultOf_98 ?_
    refine k_icmp_ne (tgt := 107) hX dX7_faultOf_100 (by decide) (fun b2 => ?_) (fun b2 => ?_)
    · refine k_iload hX rfl dX7_faultOf_107 ?_
      refine k_bipush (v := (nI 41)) hX rfl dX7_faultOf_109 ?_
      refine k_icmp_ne (tgt := 118) hX dX7_faultOf_111 (by decide) (fun b3 => ?_) (fun b3 => ?_)
      · refine k_iconst (v := (nI 0)) hX rfl dX7_faultOf_118 ?_
        exact w_X7_faultOf_119 hX hk6 x2 x3 x4 (nI 0) x1 M ⟨rfl, rfl, rfl, rfl, trivial⟩
      refine k_iconst (v := (-1)) hX rfl dX7_faultOf_114 ?_
      refine k_goto (tgt := 119) hX dX7_faultOf_115 (by decide) ?_
      exact w_X7_faultOf_119 hX hk6 x2 x3 x4 (-1) x1 M ⟨rfl, rfl, rfl, rfl, trivial⟩
    refine k_iconst (v := (nI 1)) hX rfl dX7_faultOf_103 ?_
    refine k_goto (tgt := 119) hX dX7_faultOf_104 (by decide) ?_
    exact w_X7_faultOf_119 hX hk6 x2 x3 x4 (nI 1) x1 M ⟨rfl, rfl, rfl, rfl, trivial⟩
  refine k_iload_n hX (i := 3) rfl rfl dX7_faultOf_93 ?_
  exact k_iret hX dX7_faultOf_94
set_option maxHeartbeats 4000000 in
set_option maxRecDepth 100000 in
theorem w_X7_faultOf_54 {l : Launch} {G : GL} {ad : Nat → Nat} {MM : Mem} {X : CT} (hX : Cx l { frames := 1, cells := 0, slots := 0, locals := 20 } cX7_faultOf RX7 6 (some .int) G ad X) {k6 : Int32 → Int32 → Int32 → Mem → Option Rv} (hk6 : ∀ (x1 : Int32) (x2 : Int32) (x3 : Int32) (M : Mem) {L : List (Option Value)}, lsub [some (.ref (ad 218)), some (.int x1), some (.int x2), some (.int x3), none, none] L → KF l { frames := 1, cells := 0, slots := 0, locals := 20 } 6 G ad (EM G ad MM) (QP PostI G ad (EM G ad MM)) X (k6 x1 x2 x3 M) L 6 [] M) : ∀ (x1 : Int32) (x2 : Int32) (x3 : Int32) (x4 : Int32) (M : Mem) {L : List (Option Value)}, lsub [some (.ref (ad 218)), some (.int x1), some (.int x2), some (.int x3), some (.int x4), none] L → KF l { frames := 1, cells := 0, slots := 0, locals := 20 } 6 G ad (EM G ad MM) (QP PostI G ad (EM G ad MM)) X (f_X7_faultOf_54 k6 x1 x2 x3 x4 M) L 54 [] M := by
  intro x1 x2 x3 x4 M L hL
  unfold f_X7_faultOf_54
  refine KF.locals (lsub_le hL) ?_
  refine k_iconst (v := (nI 1)) hX rfl dX7_faultOf_54 ?_
  refine k_goto (tgt := 86) hX dX7_faultOf_55 (by decide) ?_
  exact w_X7_faultOf_86 hX hk6 x1 x2 x3 x4 (nI 1) M ⟨rfl, rfl, rfl, rfl, rfl, trivial⟩
set_option maxHeartbeats 4000000 in
set_option maxRecDepth 100000 in
theorem w_X7_faultOf_58 {l : Launch} {G : GL} {ad : Nat → Nat} {MM : Mem} {X : CT} (hX : Cx l { frames := 1, cells := 0, slots := 0, locals := 20 } cX7_faultOf RX7 6 (some .int) G ad X) {k6 : Int32 → Int32 → Int32 → Mem → Option Rv} (hk6 : ∀ (x1 : Int32) (x2 : Int32) (x3 : Int32) (M : Mem) {L : List (Option Value)}, lsub [some (.ref (ad 218)), some (.int x1), some (.int x2), some (.int x3), none, none] L → KF l { frames := 1, cells := 0, slots := 0, locals := 20 } 6 G ad (EM G ad MM) (QP PostI G ad (EM G ad MM)) X (k6 x1 x2 x3 M) L 6 [] M) : ∀ (x1 : Int32) (x2 : Int32) (x3 : Int32) (x4 : Int32) (M : Mem) {L : List (Option Value)}, lsub [some (.ref (ad 218)), some (.int x1), some (.int x2), some (.int x3), some (.int x4), none] L → KF l { frames := 1, cells := 0, slots := 0, locals := 20 } 6 G ad (EM G ad MM) (QP PostI G ad (EM G ad MM)) X (f_X7_faultOf_58 k6 x1 x2 x3 x4 M) L 58 [] M := by
  intro x1 x2 x3 x4 M L hL
  unfold f_X7_faultOf_58
  refine KF.locals (lsub_le hL) ?_
  refine k_iconst (v := (nI 0)) hX rfl dX7_faultOf_58 ?_
  refine k_goto (tgt := 86) hX dX7_faultOf_59 (by decide) ?_
  exact w_X7_faultOf_86 hX hk6 x1 x2 x3 x4 (nI 0) M ⟨rfl, rfl, rfl, rfl, rfl, trivial⟩
set_option maxHeartbeats 4000000 in
set_option maxRecDepth 100000 in
theorem w_X7_faultOf_81 {l : Launch} {G : GL} {ad : Nat → Nat} {MM : Mem} {X : CT} (hX : Cx l { frames := 1, cells := 0, slots := 0, locals := 20 } cX7_faultOf RX7 6 (some .int) G ad X) {k6 : Int32 → Int32 → Int32 → Mem → Option Rv} (hk6 : ∀ (x1 : Int32) (x2 : Int32) (x3 : Int32) (M : Mem) {L : List (Option Value)}, lsub [some (.ref (ad 218)), some (.int x1), some (.int x2), some (.int x3), none, none] L → KF l { frames := 1, cells := 0, slots := 0, locals := 20 } 6 G ad (EM G ad MM) (QP PostI G ad (EM G ad MM)) X (k6 x1 x2 x3 M) L 6 [] M) : ∀ (x1 : Int32) (x2 : Int32) (x3 : Int32) (x4 : Int32) (M : Mem) {L : List (Option Value)}, lsub [some (.ref (ad 218)), some (.int x1), some (.int x2), some (.int x3), some (.int x4), none] L → KF l { frames := 1, cells := 0, slots := 0, locals := 20 } 6 G ad (EM G ad MM) (QP PostI G ad (EM G ad MM)) X (f_X7_faultOf_81 k6 x1 x2 x3 x4 M) L 81 [] M := by
  intro x1 x2 x3 x4 M L hL
  unfold f_X7_faultOf_81
  refine KF.locals (lsub_le hL) ?_
  refine k_iconst (v := (nI 1)) hX rfl dX7_faultOf_81 ?_
  refine k_goto (tgt := 86) hX dX7_faultOf_82 (by decide) ?_
  exact w_X7_faultOf_86 hX hk6 x1 x2 x3 x4 (nI 1) M ⟨rfl, rfl, rfl, rfl, rfl, trivial⟩
set_option maxHeartbeats 4000000 in
set_option maxRecDepth 100000 in
theorem w_X7_faultOf_85 {l : Launch} {G : GL} {ad : Nat → Nat} {MM : Mem} {X : CT} (hX : Cx l { frames := 1, cells := 0, slots := 0, locals := 20 } cX7_faultOf RX7 6 (some .int) G ad X) {k6 : Int32 → Int32 → Int32 → Mem → Option Rv} (hk6 : ∀ (x1 : Int32) (x2 : Int32) (x3 : Int32) (M : Mem) {L : List (Option Value)}, lsub [some (.ref (ad 218)), some (.int x1), some (.int x2), some (.int x3), none, none] L → KF l { frames := 1, cells := 0, slots := 0, locals := 20 } 6 G ad (EM G ad MM) (QP PostI G ad (EM G ad MM)) X (k6 x1 x2 x3 M) L 6 [] M) : ∀ (x1 : Int32) (x2 : Int32) (x3 : Int32) (x4 : Int32) (M : Mem) {L : List (Option Value)}, lsub [some (.ref (ad 218)), some (.int x1), some (.int x2), some (.int x3), some (.int x4), none] L → KF l { frames := 1, cells := 0, slots := 0, locals := 20 } 6 G ad (EM G ad MM) (QP PostI G ad (EM G ad MM)) X (f_X7_faultOf_85 k6 x1 x2 x3 x4 M) L 85 [] M := by
  intro x1 x2 x3 x4 M L hL
  unfold f_X7_faultOf_85
  refine KF.locals (lsub_le hL) ?_
  refine k_iconst (v := (nI 0)) hX rfl dX7_faultOf_85 ?_
  exact w_X7_faultOf_86 hX hk6 x1 x2 x3 x4 (nI 0) M ⟨rfl, rfl, rfl, rfl, rfl, trivial⟩
set_option maxHeartbeats 4000000 in
set_option maxRecDepth 100000 in
theorem w_X7_faultOf_176 {l : Launch} {G : GL} {ad : Nat → Nat} {MM : Mem} {X : CT} (hX : Cx l { frames := 1, cells := 0, slots := 0, locals := 20 } cX7_faultOf RX7 6 (some .int) G ad X) : ∀ (s0 : Int32) (M : Mem) {L : List (Option Value)}, lsub [none, none, none, none, none, none] L → KF l { frames := 1, cells := 0, slots := 0, locals := 20 } 6 G ad (EM G ad MM) (QP PostI G ad (EM G ad MM)) X (f_X7_faultOf_176 s0 M) L 176 [.int s0] M := by
  intro s0 M L hL
  unfold f_X7_faultOf_176
  refine KF.locals (lsub_le hL) ?_
  exact k_iret hX dX7_faultOf_176
set_option maxHeartbeats 4000000 in
set_option maxRecDepth 100000 in
theorem w_X7_faultOf_168 {l : Launch} {G : GL} {ad : Nat → Nat} {MM : Mem} {X : CT} (hX : Cx l { frames := 1, cells := 0, slots := 0, locals := 20 } cX7_faultOf RX7 6 (some .int) G ad X) : ∀ (M : Mem) {L : List (Option Value)}, lsub [some (.ref (ad 218)), none, none, none, none, none] L → KF l { frames := 1, cells := 0, slots := 0, locals := 20 } 6 G ad (EM G ad MM) (QP PostI G ad (EM G ad MM)) X (f_X7_faultOf_168 M) L 168 [] M := by
  intro M L hL
  unfold f_X7_faultOf_168
  refine KF.locals (lsub_le hL) ?_
  refine k_aload_n hX (i := 0) rfl rfl dX7_faultOf_168 ?_
  refine k_get hX io_218 fl_X7_200 rfl dX7_faultOf_169 ?_
  refine k_goto (tgt := 176) hX dX7_faultOf_172 (by decide) ?_
  exact w_X7_faultOf_176 hX (M 218 23) M trivial
set_option maxHeartbeats 4000000 in
set_option maxRecDepth 100000 in
theorem w_X7_faultOf_6 {l : Launch} {G : GL} {ad : Nat → Nat} {MM : Mem} {X : CT} (hX : Cx l { frames := 1, cells := 0, slots := 0, locals := 20 } cX7_faultOf RX7 6 (some .int) G ad X) : ∀ (n : Nat), ∀ (x1 : Int32) (x2 : Int32) (x3 : Int32) (M : Mem) {L : List (Option Value)}, lsub [some (.ref (ad 218)), some (.int x1), some (.int x2), some (.int x3), none, none] L → KF l { frames := 1, cells := 0, slots := 0, locals := 20 } 6 G ad (EM G ad MM) (QP PostI G ad (EM G ad MM)) X (f_X7_faultOf_6 n x1 x2 x3 M) L 6 [] M := by
  intro n
  induction n with
  | zero =>
    intro x1 x2 x3 M L hL
    exact KF.none'
  | succ n ih =>
    intro x1 x2 x3 M L hL
    rw [f_X7_faultOf_6]
    refine KF.locals (lsub_le hL) ?_
    refine k_iload_n hX (i := 3) rfl rfl dX7_faultOf_6 ?_
    refine k_aload_n hX (i := 0) rfl rfl dX7_faultOf_7 ?_
    refine k_get hX io_218 fl_X7_200 rfl dX7_faultOf_8 ?_
    refine k_icmp_ge (tgt := 160) hX dX7_faultOf_11 (by decide) (fun b1 => ?_) (fun b1 => ?_)
    · refine k_iload_n hX (i := 2) rfl rfl dX7_faultOf_160 ?_
      refine k_if_ne (tgt := 168) hX dX7_faultOf_161 (by decide) (fun b2 => ?_) (fun b2 => ?_)
      · exact w_X7_faultOf_168 hX M ⟨rfl, trivial⟩
      refine k_iload_n hX (i := 1) rfl rfl dX7_faultOf_164 ?_
      refine k_if_le (tgt := 175) hX dX7_faultOf_165 (by decide) (fun b3 => ?_) (fun b3 => ?_)
      · refine k_iconst (v := (-1)) hX rfl dX7_faultOf_175 ?_
        exact w_X7_faultOf_176 hX (-1) M trivial
      exact w_X7_faultOf_168 hX M ⟨rfl, trivial⟩
    refine k_aload_n hX (i := 0) rfl rfl dX7_faultOf_14 ?_
    refine k_get hX io_218 fl_X7_59 rfl dX7_faultOf_15 ?_
    refine k_iload_n hX (i := 3) rfl rfl dX7_faultOf_18 ?_
    refine k_cald hX ia_234 dX7_faultOf_19 (fun v4 => ?_)
    refine k_istore (L' := [some (.ref (ad 218)), some (.int x1), some (.int x2), some (.int x3), some (.int v4), none]) hX (by decide) rfl dX7_faultOf_20 ?_
    refine k_iload_n hX (i := 2) rfl rfl dX7_faultOf_22 ?_
    refine k_if_eq (tgt := 62) hX dX7_faultOf_23 (by decide) (fun b5 => ?_) (fun b5 => ?_)
    · refine k_iload hX rfl dX7_faultOf_62 ?_
      refine k_callSI (vs := [.int v4]) hX (fun _ h9 => m_X7_rank hX.2.2.2.2.2.2.1  h9) ml_X7_210 ⟨Nat.le_of_ble_eq_true rfl, Nat.le_of_ble_eq_true rfl⟩ rfl rfl (Nat.le_of_ble_eq_true rfl) dX7_faultOf_64 (fun q6 => ?_)
      refine k_if_gt (tgt := 81) hX dX7_faultOf_67 (by decide) (fun b7 => ?_) (fun b7 => ?_)
      · exact w_X7_faultOf_81 hX ih x1 x2 x3 v4 q6.2 ⟨rfl, rfl, rfl, rfl, rfl, trivial⟩
      refine k_iload hX rfl dX7_faultOf_70 ?_
      refine k_bipush (v := (nI 41)) hX rfl dX7_faultOf_72 ?_
      refine k_icmp_ne (tgt := 85) hX dX7_faultOf_74 (by decide) (fun b8 => ?_) (fun b8 => ?_)
      · exact w_X7_faultOf_85 hX ih x1 x2 x3 v4 q6.2 ⟨rfl, rfl, rfl, rfl, rfl, trivial⟩
      refine k_iload_n hX (i := 1) rfl rfl dX7_faultOf_77 ?_
      refine k_if_le (tgt := 85) hX dX7_faultOf_78 (by decide) (fun b9 => ?_) (fun b9 => ?_)
      · exact w_X7_faultOf_85 hX ih x1 x2 x3 v4 q6.2 ⟨rfl, rfl, rfl, rfl, rfl, trivial⟩
      exact w_X7_faultOf_81 hX ih x1 x2 x3 v4 q6.2 ⟨rfl, rfl, rfl, rfl, rfl, trivial⟩
    refine k_iload hX rfl dX7_faultOf_26 ?_
    refine k_callSI (vs := [.int v4]) hX (fun _ h9 => m_X7_isThing hX.2.2.2.2.2.2.1  h9) ml_X7_203 ⟨Nat.le_of_ble_eq_true rfl, Nat.le_of_ble_eq_true rfl⟩ rfl rfl (Nat.le_of_ble_eq_true rfl) dX7_faultOf_28 (fun q10 => ?_)
    refine k_if_ne (tgt := 54) hX dX7_faultOf_31 (by decide) (fun b11 => ?_) (fun b11 => ?_)
    · exact w_X7_faultOf_54 hX ih x1 x2 x3 v4 q10.2 ⟨rfl, rfl, rfl, rfl, rfl, trivial⟩
    refine k_iload hX rfl dX7_faultOf_34 ?_
    refine k_callSI (vs := [.int v4]) hX (fun _ h9 => m_X7_isAheadSign hX.2.2.2.2.2.2.1  h9) ml_X7_207 ⟨Nat.le_of_ble_eq_true rfl, Nat.le_of_ble_eq_true rfl⟩ rfl rfl (Nat.le_of_ble_eq_true rfl) dX7_faultOf_36 (fun q12 => ?_)
    refine k_if_ne (tgt := 54) hX dX7_faultOf_39 (by decide) (fun b13 => ?_) (fun b13 => ?_)
    · exact w_X7_faultOf_54 hX ih x1 x2 x3 v4 q12.2 ⟨rfl, rfl, rfl, rfl, rfl, trivial⟩
    refine k_iload hX rfl dX7_faultOf_42 ?_
    refine k_bipush (v := (nI 40)) hX rfl dX7_faultOf_44 ?_
    refine k_icmp_ne (tgt := 58) hX dX7_faultOf_46 (by decide) (fun b14 => ?_) (fun b14 => ?_)
    · exact w_X7_faultOf_58 hX ih x1 x2 x3 v4 q12.2 ⟨rfl, rfl, rfl, rfl, rfl, trivial⟩
    refine k_iload_n hX (i := 1) rfl rfl dX7_faultOf_49 ?_
    refine k_iconst (v := (nI 4)) hX rfl dX7_faultOf_50 ?_
    refine k_icmp_ge (tgt := 58) hX dX7_faultOf_51 (by decide) (fun b15 => ?_) (fun b15 => ?_)
    · exact w_X7_faultOf_58 hX ih x1 x2 x3 v4 q12.2 ⟨rfl, rfl, rfl, rfl, rfl, trivial⟩
    exact w_X7_faultOf_54 hX ih x1 x2 x3 v4 q12.2 ⟨rfl, rfl, rfl, rfl, rfl, trivial⟩
set_option maxHeartbeats 4000000 in
set_option maxRecDepth 100000 in
theorem w_X7_faultOf {l : Launch} {G : GL} {ad : Nat → Nat} {MM : Mem} {X : CT} (hX : Cx l { frames := 1, cells := 0, slots := 0, locals := 20 } cX7_faultOf RX7 6 (some .int) G ad X) {M : Mem} : KF l { frames := 1, cells := 0, slots := 0, locals := 20 } 6 G ad (EM G ad MM) (QP PostI G ad (EM G ad MM)) X (f_X7_faultOf M) [some (.ref (ad 218)), none, none, none, none, none] 0 [] M := by
  unfold f_X7_faultOf
  refine k_iconst (v := (nI 0)) hX rfl dX7_faultOf_0 ?_
  refine k_istore_n (L' := [some (.ref (ad 218)), some (.int (nI 0)), none, none, none, none]) hX (i := 1) rfl (by decide) rfl dX7_faultOf_1 ?_
  refine k_iconst (v := (nI 1)) hX rfl dX7_faultOf_2 ?_
  refine k_istore_n (L' := [some (.ref (ad 218)), some (.int (nI 0)), some (.int (nI 1)), none, none, none]) hX (i := 2) rfl (by decide) rfl dX7_faultOf_3 ?_
  refine k_iconst (v := (nI 0)) hX rfl dX7_faultOf_4 ?_
  refine k_istore_n (L' := [some (.ref (ad 218)), some (.int (nI 0)), some (.int (nI 1)), some (.int (nI 0)), none, none]) hX (i := 3) rfl (by decide) rfl dX7_faultOf_5 ?_
  exact w_X7_faultOf_6 hX fuelN (nI 0) (nI 1) (nI 0) M ⟨rfl, rfl, rfl, rfl, trivial⟩
set_option maxRecDepth 100000 in
theorem m_X7_faultOf {l : Launch} {G : GL} {ad : Nat → Nat} {MM : Mem} (hAd : AdOK G ad) {M : Mem} {r : Rv} (h : f_X7_faultOf M = some r) : Ct PostI l G ad (EM G ad MM) yX7_faultOf cX7_faultOf 6 (some .int) 1 20 [.ref (ad 218)] M r := ct_of' hAd (by decide +kernel) (List.forall_mem_cons.mpr ⟨rfl, (fun _ h => absurd h List.not_mem_nil)⟩) (Nat.le_of_ble_eq_true rfl) (L := [some (.ref (ad 218)), none, none, none, none, none]) rfl (fun _ hX => w_X7_faultOf hX) h
set_option maxHeartbeats 4000000 in
set_option maxRecDepth 100000 in
theorem w_X7_apply_118 {l : Launch} {G : GL} {ad : Nat → Nat} {MM : Mem} {X : CT} (hX : Cx l { frames := 8, cells := 0, slots := 0, locals := 184 } cX7_apply RX7 4 none G ad X) : ∀ (s0 : Int32) (s1 : Int32) (M : Mem) {L : List (Option Value)}, lsub [none, none, none, none] L → KF l { frames := 8, cells := 0, slots := 0, locals := 184 } 4 G ad (EM G ad MM) (QP PostV G ad (EM G ad MM)) X (f_X7_apply_118 s0 s1 M) L 118 [.int s0, .int s1, .ref (ad 231)] M := by
  intro s0 s1 M L hL
  unfold f_X7_apply_118
  refine KF.locals (lsub_le hL) ?_
  refine k_ast hX locM ia_231 dX7_apply_118 (fun M1 => ?_)
  exact k_vret hX dX7_apply_119
set_option maxHeartbeats 4000000 in
set_option maxRecDepth 100000 in
theorem w_X7_apply_202 {l : Launch} {G : GL} {ad : Nat → Nat} {MM : Mem} {X : CT} (hX : Cx l { frames := 8, cells := 0, slots := 0, locals := 184 } cX7_apply RX7 4 none G ad X) : ∀ (s0 : Int32) (s1 : Int32) (M : Mem) {L : List (Option Value)}, lsub [none, none, none, none] L → KF l { frames := 8, cells := 0, slots := 0, locals := 184 } 4 G ad (EM G ad MM) (QP PostV G ad (EM G ad MM)) X (f_X7_apply_202 s0 s1 M) L 202 [.int s0, .int s1, .ref (ad 231)] M := by
  intro s0 s1 M L hL
  unfold f_X7_apply_202
  refine KF.locals (lsub_le hL) ?_
  refine k_ast hX locM ia_231 dX7_apply_202 (fun M1 => ?_)
  exact k_vret hX dX7_apply_203
set_option maxHeartbeats 4000000 in
set_option maxRecDepth 100000 in
theorem w_X7_apply_197 {l : Launch} {G : GL} {ad : Nat → Nat} {MM : Mem} {X : CT} (hX : Cx l { frames := 8, cells := 0, slots := 0, locals := 184 } cX7_apply RX7 4 none G ad X) : ∀ (x2 : Int32) (x3 : Int32) (s0 : Int32) (s2 : Int32) (M : Mem) {L : List (Option Value)}, lsub [none, none, some (.int x2), some (.int x3)] L → KF l { frames := 8, cells := 0, slots := 0, locals := 184 } 4 G ad (EM G ad MM) (QP PostV G ad (EM G ad MM)) X (f_X7_apply_197 x2 x3 s0 s2 M) L 197 [.int s0, .ref (ad 218), .int s2, .ref (ad 231)] M := by
  intro x2 x3 s0 s2 M L hL
  unfold f_X7_apply_197
  refine KF.locals (lsub_le hL) ?_
  refine k_iload_n hX (i := 3) rfl rfl dX7_apply_197 ?_
  refine k_iload_n hX (i := 2) rfl rfl dX7_apply_198 ?_
  refine k_callVI (vs := [.int s0, .int x3, .int x2]) hX (fun _ h9 => m_X7_make hX.2.2.2.2.2.2.1  h9) io_218 rfl ml_X7_147 ⟨Nat.le_of_ble_eq_true rfl, Nat.le_of_ble_eq_true rfl⟩ rfl rfl (Nat.le_of_ble_eq_true rfl) dX7_apply_199 (fun q1 => ?_)
  exact w_X7_apply_202 hX q1.1 s2 q1.2 trivial
set_option maxHeartbeats 4000000 in
set_option maxRecDepth 100000 in
theorem w_X7_apply {l : Launch} {G : GL} {ad : Nat → Nat} {MM : Mem} {X : CT} (hX : Cx l { frames := 8, cells := 0, slots := 0, locals := 184 } cX7_apply RX7 4 none G ad X) {M : Mem} : KF l { frames := 8, cells := 0, slots := 0, locals := 184 } 4 G ad (EM G ad MM) (QP PostV G ad (EM G ad MM)) X (f_X7_apply M) [some (.ref (ad 218)), none, none, none] 0 [] M := by
  unfold f_X7_apply
  refine k_aload_n hX (i := 0) rfl rfl dX7_apply_0 ?_
  refine k_dup hX rfl dX7_apply_1 ?_
  refine k_get hX io_218 fl_X7_214 rfl dX7_apply_2 ?_
  refine k_iconst (v := (nI 1)) hX rfl dX7_apply_5 ?_
  refine k_isub hX dX7_apply_6 ?_
  refine k_puti hX locM io_218 fp_X7_214 (Nat.le_of_ble_eq_true rfl) rfl dX7_apply_7 (fun M1 => ?_)
  refine k_aload_n hX (i := 0) rfl rfl dX7_apply_10 ?_
  refine k_get hX io_218 fl_X7_52 rfl dX7_apply_11 ?_
  refine k_aload_n hX (i := 0) rfl rfl dX7_apply_14 ?_
  refine k_get hX io_218 fl_X7_214 rfl dX7_apply_15 ?_
  refine k_cald hX ia_232 dX7_apply_18 (fun v2 => ?_)
  refine k_istore_n (L' := [some (.ref (ad 218)), some (.int v2), none, none]) hX (i := 1) rfl (by decide) rfl dX7_apply_19 ?_
  refine k_aload_n hX (i := 0) rfl rfl dX7_apply_20 ?_
  refine k_get hX io_218 fl_X7_49 rfl dX7_apply_21 ?_
  refine k_aload_n hX (i := 0) rfl rfl dX7_apply_24 ?_
  refine k_get hX io_218 fl_X7_217 rfl dX7_apply_25 ?_
  refine k_iconst (v := (nI 1)) hX rfl dX7_apply_28 ?_
  refine k_isub hX dX7_apply_29 ?_
  refine k_ald hX ia_231 dX7_apply_30 (fun v3 => ?_)
  refine k_istore_n (L' := [some (.ref (ad 218)), some (.int v2), some (.int v3), none]) hX (i := 2) rfl (by decide) rfl dX7_apply_31 ?_
  refine k_iload_n hX (i := 1) rfl rfl dX7_apply_32 ?_
  refine k_callSI (vs := [.int v2]) hX (fun _ h9 => m_X7_isAheadSign hX.2.2.2.2.2.2.1  h9) ml_X7_207 ⟨Nat.le_of_ble_eq_true rfl, Nat.le_of_ble_eq_true rfl⟩ rfl rfl (Nat.le_of_ble_eq_true rfl) dX7_apply_33 (fun q4 => ?_)
  refine k_if_eq (tgt := 120) hX dX7_apply_36 (by decide) (fun b5 => ?_) (fun b5 => ?_)
  · refine k_aload_n hX (i := 0) rfl rfl dX7_apply_120 ?_
    refine k_dup hX rfl dX7_apply_121 ?_
    refine k_get hX io_218 fl_X7_217 rfl dX7_apply_122 ?_
    refine k_iconst (v := (nI 1)) hX rfl dX7_apply_125 ?_
    refine k_isub hX dX7_apply_126 ?_
    refine k_puti hX locM io_218 fp_X7_217 (Nat.le_of_ble_eq_true rfl) rfl dX7_apply_127 (fun M6 => ?_)
    refine k_aload_n hX (i := 0) rfl rfl dX7_apply_130 ?_
    refine k_get hX io_218 fl_X7_49 rfl dX7_apply_131 ?_
    refine k_aload_n hX (i := 0) rfl rfl dX7_apply_134 ?_
    refine k_get hX io_218 fl_X7_217 rfl dX7_apply_135 ?_
    refine k_iconst (v := (nI 1)) hX rfl dX7_apply_138 ?_
    refine k_isub hX dX7_apply_139 ?_
    refine k_ald hX ia_231 dX7_apply_140 (fun v7 => ?_)
    refine k_istore_n (L' := [some (.ref (ad 218)), some (.int v2), some (.int v3), some (.int v7)]) hX (i := 3) rfl (by decide) rfl dX7_apply_141 ?_
    refine k_aload_n hX (i := 0) rfl rfl dX7_apply_142 ?_
    refine k_get hX io_218 fl_X7_49 rfl dX7_apply_143 ?_
    refine k_aload_n hX (i := 0) rfl rfl dX7_apply_146 ?_
    refine k_get hX io_218 fl_X7_217 rfl dX7_apply_147 ?_
    refine k_iconst (v := (nI 1)) hX rfl dX7_apply_150 ?_
    refine k_isub hX dX7_apply_151 ?_
    refine k_iload_n hX (i := 1) rfl rfl dX7_apply_152 ?_
    refine k_bipush (v := (nI 124)) hX rfl dX7_apply_153 ?_
    refine k_icmp_ne (tgt := 169) hX dX7_apply_155 (by decide) (fun b8 => ?_) (fun b8 => ?_)
    · refine k_iload_n hX (i := 1) rfl rfl dX7_apply_169 ?_
      refine k_bipush (v := (nI 38)) hX rfl dX7_apply_170 ?_
      refine k_icmp_ne (tgt := 185) hX dX7_apply_172 (by decide) (fun b9 => ?_) (fun b9 => ?_)
      · refine k_aload_n hX (i := 0) rfl rfl dX7_apply_185 ?_
        refine k_iload_n hX (i := 1) rfl rfl dX7_apply_186 ?_
        refine k_bipush (v := (nI 85)) hX rfl dX7_apply_187 ?_
        refine k_icmp_ne (tgt := 196) hX dX7_apply_189 (by decide) (fun b10 => ?_) (fun b10 => ?_)
        · refine k_iconst (v := (nI 4)) hX rfl dX7_apply_196 ?_
          exact w_X7_apply_197 hX v3 v7 (nI 4) ((M6 218 18) - (nI 1)) M6 ⟨rfl, rfl, trivial⟩
        refine k_iconst (v := (nI 3)) hX rfl dX7_apply_192 ?_
        refine k_goto (tgt := 197) hX dX7_apply_193 (by decide) ?_
        exact w_X7_apply_197 hX v3 v7 (nI 3) ((M6 218 18) - (nI 1)) M6 ⟨rfl, rfl, trivial⟩
      refine k_aload_n hX (i := 0) rfl rfl dX7_apply_175 ?_
      refine k_iconst (v := (nI 5)) hX rfl dX7_apply_176 ?_
      refine k_iload_n hX (i := 3) rfl rfl dX7_apply_177 ?_
      refine k_iload_n hX (i := 2) rfl rfl dX7_apply_178 ?_
      refine k_callVI (vs := [.int (nI 5), .int v7, .int v3]) hX (fun _ h9 => m_X7_both hX.2.2.2.2.2.2.1  h9) io_218 rfl ml_X7_137 ⟨Nat.le_of_ble_eq_true rfl, Nat.le_of_ble_eq_true rfl⟩ rfl rfl (Nat.le_of_ble_eq_true rfl) dX7_apply_179 (fun q11 => ?_)
      refine k_goto (tgt := 202) hX dX7_apply_182 (by decide) ?_
      exact w_X7_apply_202 hX q11.1 ((M6 218 18) - (nI 1)) q11.2 trivial
    refine k_aload_n hX (i := 0) rfl rfl dX7_apply_158 ?_
    refine k_bipush (v := (nI 6)) hX rfl dX7_apply_159 ?_
    refine k_iload_n hX (i := 3) rfl rfl dX7_apply_161 ?_
    refine k_iload_n hX (i := 2) rfl rfl dX7_apply_162 ?_
    refine k_callVI (vs := [.int (nI 6), .int v7, .int v3]) hX (fun _ h9 => m_X7_both hX.2.2.2.2.2.2.1  h9) io_218 rfl ml_X7_137 ⟨Nat.le_of_ble_eq_true rfl, Nat.le_of_ble_eq_true rfl⟩ rfl rfl (Nat.le_of_ble_eq_true rfl) dX7_apply_163 (fun q12 => ?_)
    refine k_goto (tgt := 202) hX dX7_apply_166 (by decide) ?_
    exact w_X7_apply_202 hX q12.1 ((M6 218 18) - (nI 1)) q12.2 trivial
  refine k_aload_n hX (i := 0) rfl rfl dX7_apply_39 ?_
  refine k_get hX io_218 fl_X7_49 rfl dX7_apply_40 ?_
  refine k_aload_n hX (i := 0) rfl rfl dX7_apply_43 ?_
  refine k_get hX io_218 fl_X7_217 rfl dX7_apply_44 ?_
  refine k_iconst (v := (nI 1)) hX rfl dX7_apply_47 ?_
  refine k_isub hX dX7_apply_48 ?_
  refine k_iload_n hX (i := 1) rfl rfl dX7_apply_49 ?_
  refine k_bipush (v := (nI 33)) hX rfl dX7_apply_50 ?_
  refine k_icmp_ne (tgt := 63) hX dX7_apply_52 (by decide) (fun b13 => ?_) (fun b13 => ?_)
  · refine k_iload_n hX (i := 1) rfl rfl dX7_apply_63 ?_
    refine k_bipush (v := (nI 88)) hX rfl dX7_apply_64 ?_
    refine k_icmp_ne (tgt := 79) hX dX7_apply_66 (by decide) (fun b14 => ?_) (fun b14 => ?_)
    · refine k_iload_n hX (i := 1) rfl rfl dX7_apply_79 ?_
      refine k_bipush (v := (nI 78)) hX rfl dX7_apply_80 ?_
      refine k_icmp_ne (tgt := 95) hX dX7_apply_82 (by decide) (fun b15 => ?_) (fun b15 => ?_)
      · refine k_iload_n hX (i := 1) rfl rfl dX7_apply_95 ?_
        refine k_bipush (v := (nI 71)) hX rfl dX7_apply_96 ?_
        refine k_icmp_ne (tgt := 111) hX dX7_apply_98 (by decide) (fun b16 => ?_) (fun b16 => ?_)
        · refine k_aload_n hX (i := 0) rfl rfl dX7_apply_111 ?_
          refine k_iconst (v := (nI 3)) hX rfl dX7_apply_112 ?_
          refine k_iconst (v := (nI 1)) hX rfl dX7_apply_113 ?_
          refine k_iload_n hX (i := 2) rfl rfl dX7_apply_114 ?_
          refine k_callVI (vs := [.int (nI 3), .int (nI 1), .int v3]) hX (fun _ h9 => m_X7_make hX.2.2.2.2.2.2.1  h9) io_218 rfl ml_X7_147 ⟨Nat.le_of_ble_eq_true rfl, Nat.le_of_ble_eq_true rfl⟩ rfl rfl (Nat.le_of_ble_eq_true rfl) dX7_apply_115 (fun q17 => ?_)
          exact w_X7_apply_118 hX q17.1 ((q4.2 218 18) - (nI 1)) q17.2 trivial
        refine k_aload_n hX (i := 0) rfl rfl dX7_apply_101 ?_
        refine k_iconst (v := (nI 4)) hX rfl dX7_apply_102 ?_
        refine k_iconst (v := (nI 0)) hX rfl dX7_apply_103 ?_
        refine k_iload_n hX (i := 2) rfl rfl dX7_apply_104 ?_
        refine k_callVI (vs := [.int (nI 4), .int (nI 0), .int v3]) hX (fun _ h9 => m_X7_make hX.2.2.2.2.2.2.1  h9) io_218 rfl ml_X7_147 ⟨Nat.le_of_ble_eq_true rfl, Nat.le_of_ble_eq_true rfl⟩ rfl rfl (Nat.le_of_ble_eq_true rfl) dX7_apply_105 (fun q18 => ?_)
        refine k_goto (tgt := 118) hX dX7_apply_108 (by decide) ?_
        exact w_X7_apply_118 hX q18.1 ((q4.2 218 18) - (nI 1)) q18.2 trivial
      refine k_aload_n hX (i := 0) rfl rfl dX7_apply_85 ?_
      refine k_iconst (v := (nI 2)) hX rfl dX7_apply_86 ?_
      refine k_iload_n hX (i := 2) rfl rfl dX7_apply_87 ?_
      refine k_iconst (v := (nI 0)) hX rfl dX7_apply_88 ?_
      refine k_callVI (vs := [.int (nI 2), .int v3, .int (nI 0)]) hX (fun _ h9 => m_X7_make hX.2.2.2.2.2.2.1  h9) io_218 rfl ml_X7_147 ⟨Nat.le_of_ble_eq_true rfl, Nat.le_of_ble_eq_true rfl⟩ rfl rfl (Nat.le_of_ble_eq_true rfl) dX7_apply_89 (fun q19 => ?_)
      refine k_goto (tgt := 118) hX dX7_apply_92 (by decide) ?_
      exact w_X7_apply_118 hX q19.1 ((q4.2 218 18) - (nI 1)) q19.2 trivial
    refine k_aload_n hX (i := 0) rfl rfl dX7_apply_69 ?_
    refine k_iconst (v := (nI 1)) hX rfl dX7_apply_70 ?_
    refine k_iload_n hX (i := 2) rfl rfl dX7_apply_71 ?_
    refine k_iconst (v := (nI 0)) hX rfl dX7_apply_72 ?_
    refine k_callVI (vs := [.int (nI 1), .int v3, .int (nI 0)]) hX (fun _ h9 => m_X7_make hX.2.2.2.2.2.2.1  h9) io_218 rfl ml_X7_147 ⟨Nat.le_of_ble_eq_true rfl, Nat.le_of_ble_eq_true rfl⟩ rfl rfl (Nat.le_of_ble_eq_true rfl) dX7_apply_73 (fun q20 => ?_)
    refine k_goto (tgt := 118) hX dX7_apply_76 (by decide) ?_
    exact w_X7_apply_118 hX q20.1 ((q4.2 218 18) - (nI 1)) q20.2 trivial
  refine k_aload_n hX (i := 0) rfl rfl dX7_apply_55 ?_
  refine k_iload_n hX (i := 2) rfl rfl dX7_apply_56 ?_
  refine k_callVI (vs := [.int v3]) hX (fun _ h9 => m_X7_opposite hX.2.2.2.2.2.2.1  h9) io_218 rfl ml_X7_220 ⟨Nat.le_of_ble_eq_true rfl, Nat.le_of_ble_eq_true rfl⟩ rfl rfl (Nat.le_of_ble_eq_true rfl) dX7_apply_57 (fun q21 => ?_)
  refine k_goto (tgt := 118) hX dX7_apply_60 (by decide) ?_
  exact w_X7_apply_118 hX q21.1 ((q4.2 218 18) - (nI 1)) q21.2 trivial
set_option maxRecDepth 100000 in
theorem m_X7_apply {l : Launch} {G : GL} {ad : Nat → Nat} {MM : Mem} (hAd : AdOK G ad) {M : Mem} {r : Rv} (h : f_X7_apply M = some r) : Ct PostV l G ad (EM G ad MM) yX7_apply cX7_apply 4 none 8 184 [.ref (ad 218)] M r := ct_of' hAd (by decide +kernel) (List.forall_mem_cons.mpr ⟨rfl, (fun _ h => absurd h List.not_mem_nil)⟩) (Nat.le_of_ble_eq_true rfl) (L := [some (.ref (ad 218)), none, none, none]) rfl (fun _ hX => w_X7_apply hX) h
set_option maxHeartbeats 4000000 in
set_option maxRecDepth 100000 in
theorem w_X7_applyAhead_31 {l : Launch} {G : GL} {ad : Nat → Nat} {MM : Mem} {X : CT} (hX : Cx l { frames := 9, cells := 0, slots := 0, locals := 207 } cX7_applyAhead RX7 1 none G ad X) : ∀ (M : Mem) {L : List (Option Value)}, lsub [none] L → KF l { frames := 9, cells := 0, slots := 0, locals := 207 } 1 G ad (EM G ad MM) (QP PostV G ad (EM G ad MM)) X (f_X7_applyAhead_31 M) L 31 [] M := by
  intro M L hL
  unfold f_X7_applyAhead_31
  refine KF.locals (lsub_le hL) ?_
  exact k_vret hX dX7_applyAhead_31
set_option maxHeartbeats 4000000 in
set_option maxRecDepth 100000 in
theorem w_X7_applyAhead_0 {l : Launch} {G : GL} {ad : Nat → Nat} {MM : Mem} {X : CT} (hX : Cx l { frames := 9, cells := 0, slots := 0, locals := 207 } cX7_applyAhead RX7 1 none G ad X) : ∀ (n : Nat), ∀ (M : Mem) {L : List (Option Value)}, lsub [some (.ref (ad 218))] L → KF l { frames := 9, cells := 0, slots := 0, locals := 207 } 1 G ad (EM G ad MM) (QP PostV G ad (EM G ad MM)) X (f_X7_applyAhead_0 n M) L 0 [] M := by
  intro n
  induction n with
  | zero =>
    intro M L hL
    exact KF.none'
  | succ n ih =>
    intro M L hL
    rw [f_X7_applyAhead_0]
    refine KF.locals (lsub_le hL) ?_
    refine k_aload_n hX (i := 0) rfl rfl dX7_applyAhead_0 ?_
    refine k_get hX io_218 fl_X7_214 rfl dX7_applyAhead_1 ?_
    refine k_if_le (tgt := 31) hX dX7_applyAhead_4 (by decide) (fun b1 => ?_) (fun b1 => ?_)
    · exact w_X7_applyAhead_31 hX M trivial
    refine k_aload_n hX (i := 0) rfl rfl dX7_applyAhead_7 ?_
    refine k_get hX io_218 fl_X7_52 rfl dX7_applyAhead_8 ?_
    refine k_aload_n hX (i := 0) rfl rfl dX7_applyAhead_11 ?_
    refine k_get hX io_218 fl_X7_214 rfl dX7_applyAhead_12 ?_
    refine k_iconst (v := (nI 1)) hX rfl dX7_applyAhead_15 ?_
    refine k_isub hX dX7_applyAhead_16 ?_
    refine k_cald hX ia_232 dX7_applyAhead_17 (fun v2 => ?_)
    refine k_callSI (vs := [.int v2]) hX (fun _ h9 => m_X7_isAheadSign hX.2.2.2.2.2.2.1  h9) ml_X7_207 ⟨Nat.le_of_ble_eq_true rfl, Nat.le_of_ble_eq_true rfl⟩ rfl rfl (Nat.le_of_ble_eq_true rfl) dX7_applyAhead_18 (fun q3 => ?_)
    refine k_if_eq (tgt := 31) hX dX7_applyAhead_21 (by decide) (fun b4 => ?_) (fun b4 => ?_)
    · exact w_X7_applyAhead_31 hX q3.2 trivial
    refine k_aload_n hX (i := 0) rfl rfl dX7_applyAhead_24 ?_
    refine k_callVV (vs := []) hX (fun _ h9 => m_X7_apply hX.2.2.2.2.2.2.1  h9) io_218 rfl ml_X7_223 ⟨Nat.le_of_ble_eq_true rfl, Nat.le_of_ble_eq_true rfl⟩ rfl rfl (Nat.le_of_ble_eq_true rfl) dX7_applyAhead_25 (fun q5 => ?_)
    refine k_goto (tgt := 0) hX dX7_applyAhead_28 (by decide) ?_
    exact ih q5.2 ⟨rfl, trivial⟩
set_option maxHeartbeats 4000000 in
set_option maxRecDepth 100000 in
theorem w_X7_applyAhead {l : Launch} {G : GL} {ad : Nat → Nat} {MM : Mem} {X : CT} (hX : Cx l { frames := 9, cells := 0, slots := 0, locals := 207 } cX7_applyAhead RX7 1 none G ad X) {M : Mem} : KF l { frames := 9, cells := 0, slots := 0, locals := 207 } 1 G ad (EM G ad MM) (QP PostV G ad (EM G ad MM)) X (f_X7_applyAhead M) [some (.ref (ad 218))] 0 [] M := by
  unfold f_X7_applyAhead
  exact w_X7_applyAhead_0 hX fuelN M ⟨rfl, trivial⟩
set_option maxRecDepth 100000 in
theorem m_X7_applyAhead {l : Launch} {G : GL} {ad : Nat → Nat} {MM : Mem} (hAd : AdOK G ad) {M : Mem} {r : Rv} (h : f_X7_applyAhead M = some r) : Ct PostV l G ad (EM G ad MM) yX7_applyAhead cX7_applyAhead 1 none 9 207 [.ref (ad 218)] M r := ct_of' hAd (by decide +kernel) (List.forall_mem_cons.mpr ⟨rfl, (fun _ h => absurd h List.not_mem_nil)⟩) (Nat.le_of_ble_eq_true rfl) (L := [some (.ref (ad 218))]) rfl (fun _ hX => w_X7_applyAhead hX) h
set_option maxHeartbeats 4000000 in
set_option maxRecDepth 100000 in
theorem w_X7_readOne_41 {l : Launch} {G : GL} {ad : Nat → Nat} {MM : Mem} {X : CT} (hX : Cx l { frames := 10, cells := 0, slots := 0, locals := 227 } cX7_readOne RX7 2 none G ad X) : ∀ (s0 : Int32) (s1 : Int32) (M : Mem) {L : List (Option Value)}, lsub [some (.ref (ad 218)), none] L → KF l { frames := 10, cells := 0, slots := 0, locals := 227 } 2 G ad (EM G ad MM) (QP PostV G ad (EM G ad MM)) X (f_X7_readOne_41 s0 s1 M) L 41 [.int s0, .int s1, .ref (ad 231)] M := by
  intro s0 s1 M L hL
  unfold f_X7_readOne_41
  refine KF.locals (lsub_le hL) ?_
  refine k_ast hX locM ia_231 dX7_readOne_41 (fun M1 => ?_)
  refine k_aload_n hX (i := 0) rfl rfl dX7_readOne_42 ?_
  refine k_dup hX rfl dX7_readOne_43 ?_
  refine k_get hX io_218 fl_X7_217 rfl dX7_readOne_44 ?_
  refine k_iconst (v := (nI 1)) hX rfl dX7_readOne_47 ?_
  refine k_iadd hX dX7_readOne_48 ?_
  refine k_puti hX locM io_218 fp_X7_217 (Nat.le_of_ble_eq_true rfl) rfl dX7_readOne_49 (fun M2 => ?_)
  refine k_aload_n hX (i := 0) rfl rfl dX7_readOne_52 ?_
  refine k_callVV (vs := []) hX (fun _ h9 => m_X7_applyAhead hX.2.2.2.2.2.2.1  h9) io_218 rfl ml_X7_226 ⟨Nat.le_of_ble_eq_true rfl, Nat.le_of_ble_eq_true rfl⟩ rfl rfl (Nat.le_of_ble_eq_true rfl) dX7_readOne_53 (fun q3 => ?_)
  exact k_vret hX dX7_readOne_56
set_option maxHeartbeats 4000000 in
set_option maxRecDepth 100000 in
theorem w_X7_readOne_63 {l : Launch} {G : GL} {ad : Nat → Nat} {MM : Mem} {X : CT} (hX : Cx l { frames := 10, cells := 0, slots := 0, locals := 227 } cX7_readOne RX7 2 none G ad X) : ∀ (n : Nat), ∀ (M : Mem) {L : List (Option Value)}, lsub [some (.ref (ad 218)), none] L → KF l { frames := 10, cells := 0, slots := 0, locals := 227 } 2 G ad (EM G ad MM) (QP PostV G ad (EM G ad MM)) X (f_X7_readOne_63 n M) L 63 [] M := by
  intro n
  induction n with
  | zero =>
    intro M L hL
    exact KF.none'
  | succ n ih =>
    intro M L hL
    rw [f_X7_readOne_63]
    refine KF.locals (lsub_le hL) ?_
    refine k_aload_n hX (i := 0) rfl rfl dX7_readOne_63 ?_
    refine k_get hX io_218 fl_X7_52 rfl dX7_readOne_64 ?_
    refine k_aload_n hX (i := 0) rfl rfl dX7_readOne_67 ?_
    refine k_get hX io_218 fl_X7_214 rfl dX7_readOne_68 ?_
    refine k_iconst (v := (nI 1)) hX rfl dX7_readOne_71 ?_
    refine k_isub hX dX7_readOne_72 ?_
    refine k_cald hX ia_232 dX7_readOne_73 (fun v1 => ?_)
    refine k_bipush (v := (nI 40)) hX rfl dX7_readOne_74 ?_
    refine k_icmp_eq (tgt := 86) hX dX7_readOne_76 (by decide) (fun b2 => ?_) (fun b2 => ?_)
    · refine k_aload_n hX (i := 0) rfl rfl dX7_readOne_86 ?_
      refine k_dup hX rfl dX7_readOne_87 ?_
      refine k_get hX io_218 fl_X7_214 rfl dX7_readOne_88 ?_
      refine k_iconst (v := (nI 1)) hX rfl dX7_readOne_91 ?_
      refine k_isub hX dX7_readOne_92 ?_
      refine k_puti hX locM io_218 fp_X7_214 (Nat.le_of_ble_eq_true rfl) rfl dX7_readOne_93 (fun M3 => ?_)
      refine k_aload_n hX (i := 0) rfl rfl dX7_readOne_96 ?_
      refine k_callVV (vs := []) hX (fun _ h9 => m_X7_applyAhead hX.2.2.2.2.2.2.1  h9) io_218 rfl ml_X7_226 ⟨Nat.le_of_ble_eq_true rfl, Nat.le_of_ble_eq_true rfl⟩ rfl rfl (Nat.le_of_ble_eq_true rfl) dX7_readOne_97 (fun q4 => ?_)
      exact k_vret hX dX7_readOne_100
    refine k_aload_n hX (i := 0) rfl rfl dX7_readOne_79 ?_
    refine k_callVV (vs := []) hX (fun _ h9 => m_X7_apply hX.2.2.2.2.2.2.1  h9) io_218 rfl ml_X7_223 ⟨Nat.le_of_ble_eq_true rfl, Nat.le_of_ble_eq_true rfl⟩ rfl rfl (Nat.le_of_ble_eq_true rfl) dX7_readOne_80 (fun q5 => ?_)
    refine k_goto (tgt := 63) hX dX7_readOne_83 (by decide) ?_
    exact ih q5.2 ⟨rfl, trivial⟩
set_option maxHeartbeats 4000000 in
set_option maxRecDepth 100000 in
theorem w_X7_readOne_165 {l : Launch} {G : GL} {ad : Nat → Nat} {MM : Mem} {X : CT} (hX : Cx l { frames := 10, cells := 0, slots := 0, locals := 227 } cX7_readOne RX7 2 none G ad X) {k101 : Int32 → Mem → Option Rv} (hk101 : ∀ (x1 : Int32) (M : Mem) {L : List (Option Value)}, lsub [some (.ref (ad 218)), some (.int x1)] L → KF l { frames := 10, cells := 0, slots := 0, locals := 227 } 2 G ad (EM G ad MM) (QP PostV G ad (EM G ad MM)) X (k101 x1 M) L 101 [] M) : ∀ (x1 : Int32) (M : Mem) {L : List (Option Value)}, lsub [some (.ref (ad 218)), some (.int x1)] L → KF l { frames := 10, cells := 0, slots := 0, locals := 227 } 2 G ad (EM G ad MM) (QP PostV G ad (EM G ad MM)) X (f_X7_readOne_165 k101 x1 M) L 165 [] M := by
  intro x1 M L hL
  unfold f_X7_readOne_165
  refine KF.locals (lsub_le hL) ?_
  refine k_aload_n hX (i := 0) rfl rfl dX7_readOne_165 ?_
  refine k_callVV (vs := []) hX (fun _ h9 => m_X7_apply hX.2.2.2.2.2.2.1  h9) io_218 rfl ml_X7_223 ⟨Nat.le_of_ble_eq_true rfl, Nat.le_of_ble_eq_true rfl⟩ rfl rfl (Nat.le_of_ble_eq_true rfl) dX7_readOne_166 (fun q1 => ?_)
  refine k_goto (tgt := 101) hX dX7_readOne_169 (by decide) ?_
  exact hk101 x1 q1.2 ⟨rfl, rfl, trivial⟩
set_option maxHeartbeats 4000000 in
set_option maxRecDepth 100000 in
theorem w_X7_readOne_172 {l : Launch} {G : GL} {ad : Nat → Nat} {MM : Mem} {X : CT} (hX : Cx l { frames := 10, cells := 0, slots := 0, locals := 227 } cX7_readOne RX7 2 none G ad X) : ∀ (x1 : Int32) (M : Mem) {L : List (Option Value)}, lsub [some (.ref (ad 218)), some (.int x1)] L → KF l { frames := 10, cells := 0, slots := 0, locals := 227 } 2 G ad (EM G ad MM) (QP PostV G ad (EM G ad MM)) X (f_X7_readOne_172 x1 M) L 172 [] M := by
  intro x1 M L hL
  unfold f_X7_readOne_172
  refine KF.locals (lsub_le hL) ?_
  refine k_aload_n hX (i := 0) rfl rfl dX7_readOne_172 ?_
  refine k_get hX io_218 fl_X7_52 rfl dX7_readOne_173 ?_
  refine k_aload_n hX (i := 0) rfl rfl dX7_readOne_176 ?_
  refine k_get hX io_218 fl_X7_214 rfl dX7_readOne_177 ?_
  refine k_iload_n hX (i := 1) rfl rfl dX7_readOne_180 ?_
  refine k_cast hX locM ia_232 dX7_readOne_181 (fun M1 => ?_)
  refine k_aload_n hX (i := 0) rfl rfl dX7_readOne_182 ?_
  refine k_dup hX rfl dX7_readOne_183 ?_
  refine k_get hX io_218 fl_X7_214 rfl dX7_readOne_184 ?_
  refine k_iconst (v := (nI 1)) hX rfl dX7_readOne_187 ?_
  refine k_iadd hX dX7_readOne_188 ?_
  refine k_puti hX locM io_218 fp_X7_214 (Nat.le_of_ble_eq_true rfl) rfl dX7_readOne_189 (fun M2 => ?_)
  exact k_vret hX dX7_readOne_192
set_option maxHeartbeats 4000000 in
set_option maxRecDepth 100000 in
theorem w_X7_readOne_101 {l : Launch} {G : GL} {ad : Nat → Nat} {MM : Mem} {X : CT} (hX : Cx l { frames := 10, cells := 0, slots := 0, locals := 227 } cX7_readOne RX7 2 none G ad X) : ∀ (n : Nat), ∀ (x1 : Int32) (M : Mem) {L : List (Option Value)}, lsub [some (.ref (ad 218)), some (.int x1)] L → KF l { frames := 10, cells := 0, slots := 0, locals := 227 } 2 G ad (EM G ad MM) (QP PostV G ad (EM G ad MM)) X (f_X7_readOne_101 n x1 M) L 101 [] M := by
  intro n
  induction n with
  | zero =>
    intro x1 M L hL
    exact KF.none'
  | succ n ih =>
    intro x1 M L hL
    rw [f_X7_readOne_101]
    refine KF.locals (lsub_le hL) ?_
    refine k_iload_n hX (i := 1) rfl rfl dX7_readOne_101 ?_
    refine k_callSI (vs := [.int x1]) hX (fun _ h9 => m_X7_rank hX.2.2.2.2.2.2.1  h9) ml_X7_210 ⟨Nat.le_of_ble_eq_true rfl, Nat.le_of_ble_eq_true rfl⟩ rfl rfl (Nat.le_of_ble_eq_true rfl) dX7_readOne_102 (fun q1 => ?_)
    refine k_if_le (tgt := 172) hX dX7_readOne_105 (by decide) (fun b2 => ?_) (fun b2 => ?_)
    · exact w_X7_readOne_172 hX x1 q1.2 ⟨rfl, rfl, trivial⟩
    refine k_aload_n hX (i := 0) rfl rfl dX7_readOne_108 ?_
    refine k_get hX io_218 fl_X7_214 rfl dX7_readOne_109 ?_
    refine k_if_le (tgt := 172) hX dX7_readOne_112 (by decide) (fun b3 => ?_) (fun b3 => ?_)
    · exact w_X7_readOne_172 hX x1 q1.2 ⟨rfl, rfl, trivial⟩
    refine k_aload_n hX (i := 0) rfl rfl dX7_readOne_115 ?_
    refine k_get hX io_218 fl_X7_52 rfl dX7_readOne_116 ?_
    refine k_aload_n hX (i := 0) rfl rfl dX7_readOne_119 ?_
    refine k_get hX io_218 fl_X7_214 rfl dX7_readOne_120 ?_
    refine k_iconst (v := (nI 1)) hX rfl dX7_readOne_123 ?_
    refine k_isub hX dX7_readOne_124 ?_
    refine k_cald hX ia_232 dX7_readOne_125 (fun v4 => ?_)
    refine k_callSI (vs := [.int v4]) hX (fun _ h9 => m_X7_rank hX.2.2.2.2.2.2.1  h9) ml_X7_210 ⟨Nat.le_of_ble_eq_true rfl, Nat.le_of_ble_eq_true rfl⟩ rfl rfl (Nat.le_of_ble_eq_true rfl) dX7_readOne_126 (fun q5 => ?_)
    refine k_iload_n hX (i := 1) rfl rfl dX7_readOne_129 ?_
    refine k_callSI (vs := [.int x1]) hX (fun _ h9 => m_X7_rank hX.2.2.2.2.2.2.1  h9) ml_X7_210 ⟨Nat.le_of_ble_eq_true rfl, Nat.le_of_ble_eq_true rfl⟩ rfl rfl (Nat.le_of_ble_eq_true rfl) dX7_readOne_130 (fun q6 => ?_)
    refine k_icmp_gt (tgt := 165) hX dX7_readOne_133 (by decide) (fun b7 => ?_) (fun b7 => ?_)
    · exact w_X7_readOne_165 hX ih x1 q6.2 ⟨rfl, rfl, trivial⟩
    refine k_aload_n hX (i := 0) rfl rfl dX7_readOne_136 ?_
    refine k_get hX io_218 fl_X7_52 rfl dX7_readOne_137 ?_
    refine k_aload_n hX (i := 0) rfl rfl dX7_readOne_140 ?_
    refine k_get hX io_218 fl_X7_214 rfl dX7_readOne_141 ?_
    refine k_iconst (v := (nI 1)) hX rfl dX7_readOne_144 ?_
    refine k_isub hX dX7_readOne_145 ?_
    refine k_cald hX ia_232 dX7_readOne_146 (fun v8 => ?_)
    refine k_callSI (vs := [.int v8]) hX (fun _ h9 => m_X7_rank hX.2.2.2.2.2.2.1  h9) ml_X7_210 ⟨Nat.le_of_ble_eq_true rfl, Nat.le_of_ble_eq_true rfl⟩ rfl rfl (Nat.le_of_ble_eq_true rfl) dX7_readOne_147 (fun q9 => ?_)
    refine k_iload_n hX (i := 1) rfl rfl dX7_readOne_150 ?_
    refine k_callSI (vs := [.int x1]) hX (fun _ h9 => m_X7_rank hX.2.2.2.2.2.2.1  h9) ml_X7_210 ⟨Nat.le_of_ble_eq_true rfl, Nat.le_of_ble_eq_true rfl⟩ rfl rfl (Nat.le_of_ble_eq_true rfl) dX7_readOne_151 (fun q10 => ?_)
    refine k_icmp_ne (tgt := 172) hX dX7_readOne_154 (by decide) (fun b11 => ?_) (fun b11 => ?_)
    · exact w_X7_readOne_172 hX x1 q10.2 ⟨rfl, rfl, trivial⟩
    refine k_iload_n hX (i := 1) rfl rfl dX7_readOne_157 ?_
    refine k_callSI (vs := [.int x1]) hX (fun _ h9 => m_X7_rank hX.2.2.2.2.2.2.1  h9) ml_X7_210 ⟨Nat.le_of_ble_eq_true rfl, Nat.le_of_ble_eq_true rfl⟩ rfl rfl (Nat.le_of_ble_eq_true rfl) dX7_readOne_158 (fun q12 => ?_)
    refine k_iconst (v := (nI 3)) hX rfl dX7_readOne_161 ?_
    refine k_icmp_ge (tgt := 172) hX dX7_readOne_162 (by decide) (fun b13 => ?_) (fun b13 => ?_)
    · exact w_X7_readOne_172 hX x1 q12.2 ⟨rfl, rfl, trivial⟩
    exact w_X7_readOne_165 hX ih x1 q12.2 ⟨rfl, rfl, trivial⟩
set_option maxHeartbeats 4000000 in
set_option maxRecDepth 100000 in
theorem w_X7_readOne {l : Launch} {G : GL} {ad : Nat → Nat} {MM : Mem} {X : CT} (hX : Cx l { frames := 10, cells := 0, slots := 0, locals := 227 } cX7_readOne RX7 2 none G ad X) {p1 : Int32} {M : Mem} : KF l { frames := 10, cells := 0, slots := 0, locals := 227 } 2 G ad (EM G ad MM) (QP PostV G ad (EM G ad MM)) X (f_X7_readOne p1 M) [some (.ref (ad 218)), some (.int p1)] 0 [] M := by
  unfold f_X7_readOne
  refine k_iload_n hX (i := 1) rfl rfl dX7_readOne_0 ?_
  refine k_callSI (vs := [.int p1]) hX (fun _ h9 => m_X7_isThing hX.2.2.2.2.2.2.1  h9) ml_X7_203 ⟨Nat.le_of_ble_eq_true rfl, Nat.le_of_ble_eq_true rfl⟩ rfl rfl (Nat.le_of_ble_eq_true rfl) dX7_readOne_1 (fun q1 => ?_)
  refine k_if_eq (tgt := 57) hX dX7_readOne_4 (by decide) (fun b2 => ?_) (fun b2 => ?_)
  · refine k_iload_n hX (i := 1) rfl rfl dX7_readOne_57 ?_
    refine k_bipush (v := (nI 41)) hX rfl dX7_readOne_58 ?_
    refine k_icmp_ne (tgt := 101) hX dX7_readOne_60 (by decide) (fun b3 => ?_) (fun b3 => ?_)
    · exact w_X7_readOne_101 hX fuelN p1 q1.2 ⟨rfl, rfl, trivial⟩
    exact w_X7_readOne_63 hX fuelN q1.2 ⟨rfl, trivial⟩
  refine k_aload_n hX (i := 0) rfl rfl dX7_readOne_7 ?_
  refine k_get hX io_218 fl_X7_49 rfl dX7_readOne_8 ?_
  refine k_aload_n hX (i := 0) rfl rfl dX7_readOne_11 ?_
  refine k_get hX io_218 fl_X7_217 rfl dX7_readOne_12 ?_
  refine k_iload_n hX (i := 1) rfl rfl dX7_readOne_15 ?_
  refine k_bipush (v := (nI 48)) hX rfl dX7_readOne_16 ?_
  refine k_icmp_ne (tgt := 25) hX dX7_readOne_18 (by decide) (fun b4 => ?_) (fun b4 => ?_)
  · refine k_iload_n hX (i := 1) rfl rfl dX7_readOne_25 ?_
    refine k_bipush (v := (nI 49)) hX rfl dX7_readOne_26 ?_
    refine k_icmp_ne (tgt := 35) hX dX7_readOne_28 (by decide) (fun b5 => ?_) (fun b5 => ?_)
    · refine k_iconst (v := (nI 4)) hX rfl dX7_readOne_35 ?_
      refine k_iload_n hX (i := 1) rfl rfl dX7_readOne_36 ?_
      refine k_iadd hX dX7_readOne_37 ?_
      refine k_bipush (v := (nI 97)) hX rfl dX7_readOne_38 ?_
      refine k_isub hX dX7_readOne_40 ?_
      exact w_X7_readOne_41 hX (((nI 4) + p1) - (nI 97)) (q1.2 218 18) q1.2 ⟨rfl, trivial⟩
    refine k_iconst (v := (nI 1)) hX rfl dX7_readOne_31 ?_
    refine k_goto (tgt := 41) hX dX7_readOne_32 (by decide) ?_
    exact w_X7_readOne_41 hX (nI 1) (q1.2 218 18) q1.2 ⟨rfl, trivial⟩
  refine k_iconst (v := (nI 0)) hX rfl dX7_readOne_21 ?_
  refine k_goto (tgt := 41) hX dX7_readOne_22 (by decide) ?_
  exact w_X7_readOne_41 hX (nI 0) (q1.2 218 18) q1.2 ⟨rfl, trivial⟩
set_option maxRecDepth 100000 in
theorem m_X7_readOne {l : Launch} {G : GL} {ad : Nat → Nat} {MM : Mem} (hAd : AdOK G ad) {p1 : Int32} {M : Mem} {r : Rv} (h : f_X7_readOne p1 M = some r) : Ct PostV l G ad (EM G ad MM) yX7_readOne cX7_readOne 2 none 10 227 [.ref (ad 218), .int p1] M r := ct_of' hAd (by decide +kernel) (List.forall_mem_cons.mpr ⟨rfl, (List.forall_mem_cons.mpr ⟨rfl, (fun _ h => absurd h List.not_mem_nil)⟩)⟩) (Nat.le_of_ble_eq_true rfl) (L := [some (.ref (ad 218)), some (.int p1)]) rfl (fun _ hX => w_X7_readOne hX) h
