set_option maxHeartbeats 4000000 in
set_option maxRecDepth 100000 in
theorem w_X0_opposite_249 {l : Launch} {G : GL} {ad : Nat → Nat} {MM : Mem} {X : CT} (hX : Cx l { frames := 4, cells := 0, slots := 0, locals := 104 } cX0_opposite RX0 5 (some .int) G ad X) {k69 : Int32 → Int32 → Mem → Option Rv} (hk69 : ∀ (x1 : Int32) (x2 : Int32) (M : Mem) {L : List (Option Value)}, lsub [some (.ref (ad 13)), some (.int x1), some (.int x2), none, none] L → KF l { frames := 4, cells := 0, slots := 0, locals := 104 } 5 G ad (EC G ad MM) (QP PostI G ad (EC G ad MM)) X (k69 x1 x2 M) L 69 [] M) : ∀ (x1 : Int32) (x2 : Int32) (M : Mem) {L : List (Option Value)}, lsub [some (.ref (ad 13)), some (.int x1), some (.int x2), none, none] L → KF l { frames := 4, cells := 0, slots := 0, locals := 104 } 5 G ad (EC G ad MM) (QP PostI G ad (EC G ad MM)) X (f_X0_opposite_249 k69 x1 x2 M) L 249 [] M := by
  intro x1 x2 M L hL
  unfold f_X0_opposite_249
  refine KF.locals (lsub_le hL) ?_
  refine k_iinc (v := x2 + nI 1) (L' := [some (.ref (ad 13)), some (.int x1), some (.int (x2 + nI 1)), none, none]) hX (i := 2) rfl rfl (by decide) rfl dX0_opposite_249 ?_
  refine k_goto (tgt := 69) hX dX0_opposite_252 (by decide) ?_
  exact hk69 x1 (x2 + nI 1) M ⟨rfl, rfl, rfl, trivial⟩
set_option maxHeartbeats 4000000 in
set_option maxRecDepth 100000 in
theorem w_X0_opposite_69 {l : Launch} {G : GL} {ad : Nat → Nat} {MM : Mem} {X : CT} (hX : Cx l { frames := 4, cells := 0, slots := 0, locals := 104 } cX0_opposite RX0 5 (some .int) G ad X) : ∀ (n : Nat), ∀ (x1 : Int32) (x2 : Int32) (M : Mem) {L : List (Option Value)}, lsub [some (.ref (ad 13)), some (.int x1), some (.int x2), none, none] L → KF l { frames := 4, cells := 0, slots := 0, locals := 104 } 5 G ad (EC G ad MM) (QP PostI G ad (EC G ad MM)) X (f_X0_opposite_69 n x1 x2 M) L 69 [] M := by
  intro n
  induction n with
  | zero =>
    intro x1 x2 M L hL
    exact KF.none'
  | succ n ih =>
    intro x1 x2 M L hL
    rw [f_X0_opposite_69]
    refine KF.locals (lsub_le hL) ?_
    refine k_iload_n hX (i := 2) rfl rfl dX0_opposite_69 ?_
    refine k_iload_n hX (i := 1) rfl rfl dX0_opposite_70 ?_
    refine k_icmp_gt (tgt := 255) hX dX0_opposite_71 (by decide) (fun b1 => ?_) (fun b1 => ?_)
    · refine k_aload_n hX (i := 0) rfl rfl dX0_opposite_255 ?_
      refine k_get hX io_13 fl_X0_9 rfl dX0_opposite_256 ?_
      refine k_iload_n hX (i := 1) rfl rfl dX0_opposite_259 ?_
      refine k_ald hX ia_14 dX0_opposite_260 (fun v2 => ?_)
      exact k_iret hX dX0_opposite_261
    refine k_aload_n hX (i := 0) rfl rfl dX0_opposite_74 ?_
    refine k_get hX io_13 fl_X0_9 rfl dX0_opposite_75 ?_
    refine k_aload_n hX (i := 0) rfl rfl dX0_opposite_78 ?_
    refine k_get hX io_13 fl_X0_21 rfl dX0_opposite_79 ?_
    refine k_iload_n hX (i := 2) rfl rfl dX0_opposite_82 ?_
    refine k_iconst (v := (nI 0)) hX rfl dX0_opposite_83 ?_
    refine k_callVI (vs := [.int x2, .int (nI 0)]) hX (fun _ h9 => m_X1_kid hX.2.2.2.2.2.2.1  h9) io_1 rfl ml_X0_43 ⟨Nat.le_of_ble_eq_true rfl, Nat.le_of_ble_eq_true rfl⟩ rfl rfl (Nat.le_of_ble_eq_true rfl) dX0_opposite_84 (fun q3 => ?_)
    refine k_ald hX ia_14 dX0_opposite_87 (fun v4 => ?_)
    refine k_istore_n (L' := [some (.ref (ad 13)), some (.int x1), some (.int x2), some (.int v4), none]) hX (i := 3) rfl (by decide) rfl dX0_opposite_88 ?_
    refine k_aload_n hX (i := 0) rfl rfl dX0_opposite_89 ?_
    refine k_get hX io_13 fl_X0_9 rfl dX0_opposite_90 ?_
    refine k_aload_n hX (i := 0) rfl rfl dX0_opposite_93 ?_
    refine k_get hX io_13 fl_X0_21 rfl dX0_opposite_94 ?_
    refine k_iload_n hX (i := 2) rfl rfl dX0_opposite_97 ?_
    refine k_aload_n hX (i := 0) rfl rfl dX0_opposite_98 ?_
    refine k_get hX io_13 fl_X0_21 rfl dX0_opposite_99 ?_
    refine k_get hX io_1 fl_X0_40 rfl dX0_opposite_102 ?_
    refine k_iload_n hX (i := 2) rfl rfl dX0_opposite_105 ?_
    refine k_ald hX ia_4 dX0_opposite_106 (fun v5 => ?_)
    refine k_iconst (v := (nI 1)) hX rfl dX0_opposite_107 ?_
    refine k_isub hX dX0_opposite_108 ?_
    refine k_callVI (vs := [.int x2, .int (v5 - (nI 1))]) hX (fun _ h9 => m_X1_kid hX.2.2.2.2.2.2.1  h9) io_1 rfl ml_X0_43 ⟨Nat.le_of_ble_eq_true rfl, Nat.le_of_ble_eq_true rfl⟩ rfl rfl (Nat.le_of_ble_eq_true rfl) dX0_opposite_109 (fun q6 => ?_)
    refine k_ald hX ia_14 dX0_opposite_112 (fun v7 => ?_)
    refine k_istore (L' := [some (.ref (ad 13)), some (.int x1), some (.int x2), some (.int v4), some (.int v7)]) hX (by decide) rfl dX0_opposite_113 ?_
    refine k_aload_n hX (i := 0) rfl rfl dX0_opposite_115 ?_
    refine k_get hX io_13 fl_X0_21 rfl dX0_opposite_116 ?_
    refine k_get hX io_1 fl_X0_35 rfl dX0_opposite_119 ?_
    refine k_iload_n hX (i := 2) rfl rfl dX0_opposite_122 ?_
    refine k_ald hX ia_2 dX0_opposite_123 (fun v8 => ?_)
    refine KF.ite (fun b9 => ?_) (fun b9 => ?_)
    · refine k_tabIn (tgt := 156) hX b9 dX0_opposite_124 (by decide) (by decide) rfl (by decide) ?_
      refine k_aload_n hX (i := 0) rfl rfl dX0_opposite_156 ?_
      refine k_get hX io_13 fl_X0_9 rfl dX0_opposite_157 ?_
      refine k_iload_n hX (i := 2) rfl rfl dX0_opposite_160 ?_
      refine k_aload_n hX (i := 0) rfl rfl dX0_opposite_161 ?_
      refine k_bipush (v := (nI 17)) hX rfl dX0_opposite_162 ?_
      refine k_iload_n hX (i := 3) rfl rfl dX0_opposite_164 ?_
      refine k_iload_n hX (i := 3) rfl rfl dX0_opposite_165 ?_
      refine k_callVI (vs := [.int (nI 17), .int v4, .int v4]) hX (fun _ h9 => m_X0_make hX.2.2.2.2.2.2.1  h9) io_13 rfl ml_X0_81 ⟨Nat.le_of_ble_eq_true rfl, Nat.le_of_ble_eq_true rfl⟩ rfl rfl (Nat.le_of_ble_eq_true rfl) dX0_opposite_166 (fun q10 => ?_)
      refine k_ast hX locC ia_14 dX0_opposite_169 (fun M11 => ?_)
      refine k_goto (tgt := 249) hX dX0_opposite_170 (by decide) ?_
      exact w_X0_opposite_249 hX ih x1 x2 M11 ⟨rfl, rfl, rfl, trivial⟩
    refine KF.ite (fun b12 => ?_) (fun b12 => ?_)
    · refine k_tabIn (tgt := 173) hX b12 dX0_opposite_124 (by decide) (by decide) rfl (by decide) ?_
      refine k_aload_n hX (i := 0) rfl rfl dX0_opposite_173 ?_
      refine k_get hX io_13 fl_X0_9 rfl dX0_opposite_174 ?_
      refine k_iload_n hX (i := 2) rfl rfl dX0_opposite_177 ?_
      refine k_aload_n hX (i := 0) rfl rfl dX0_opposite_178 ?_
      refine k_bipush (v := (nI 16)) hX rfl dX0_opposite_179 ?_
      refine k_iload_n hX (i := 3) rfl rfl dX0_opposite_181 ?_
      refine k_iload_n hX (i := 3) rfl rfl dX0_opposite_182 ?_
      refine k_callVI (vs := [.int (nI 16), .int v4, .int v4]) hX (fun _ h9 => m_X0_make hX.2.2.2.2.2.2.1  h9) io_13 rfl ml_X0_81 ⟨Nat.le_of_ble_eq_true rfl, Nat.le_of_ble_eq_true rfl⟩ rfl rfl (Nat.le_of_ble_eq_true rfl) dX0_opposite_183 (fun q13 => ?_)
      refine k_ast hX locC ia_14 dX0_opposite_186 (fun M14 => ?_)
      refine k_goto (tgt := 249) hX dX0_opposite_187 (by decide) ?_
      exact w_X0_opposite_249 hX ih x1 x2 M14 ⟨rfl, rfl, rfl, trivial⟩
    refine KF.ite (fun b15 => ?_) (fun b15 => ?_)
    · refine k_tabIn (tgt := 190) hX b15 dX0_opposite_124 (by decide) (by decide) rfl (by decide) ?_
      refine k_aload_n hX (i := 0) rfl rfl dX0_opposite_190 ?_
      refine k_get hX io_13 fl_X0_9 rfl dX0_opposite_191 ?_
      refine k_iload_n hX (i := 2) rfl rfl dX0_opposite_194 ?_
      refine k_aload_n hX (i := 0) rfl rfl dX0_opposite_195 ?_
      refine k_bipush (v := (nI 19)) hX rfl dX0_opposite_196 ?_
      refine k_iload_n hX (i := 3) rfl rfl dX0_opposite_198 ?_
      refine k_iload hX rfl dX0_opposite_199 ?_
      refine k_callVI (vs := [.int (nI 19), .int v4, .int v7]) hX (fun _ h9 => m_X0_make hX.2.2.2.2.2.2.1  h9) io_13 rfl ml_X0_81 ⟨Nat.le_of_ble_eq_true rfl, Nat.le_of_ble_eq_true rfl⟩ rfl rfl (Nat.le_of_ble_eq_true rfl) dX0_opposite_201 (fun q16 => ?_)
      refine k_ast hX locC ia_14 dX0_opposite_204 (fun M17 => ?_)
      refine k_goto (tgt := 249) hX dX0_opposite_205 (by decide) ?_
      exact w_X0_opposite_249 hX ih x1 x2 M17 ⟨rfl, rfl, rfl, trivial⟩
    refine KF.ite (fun b18 => ?_) (fun b18 => ?_)
    · refine k_tabIn (tgt := 208) hX b18 dX0_opposite_124 (by decide) (by decide) rfl (by decide) ?_
      refine k_aload_n hX (i := 0) rfl rfl dX0_opposite_208 ?_
      refine k_get hX io_13 fl_X0_9 rfl dX0_opposite_209 ?_
      refine k_iload_n hX (i := 2) rfl rfl dX0_opposite_212 ?_
      refine k_aload_n hX (i := 0) rfl rfl dX0_opposite_213 ?_
      refine k_bipush (v := (nI 18)) hX rfl dX0_opposite_214 ?_
      refine k_iload_n hX (i := 3) rfl rfl dX0_opposite_216 ?_
      refine k_iload hX rfl dX0_opposite_217 ?_
      refine k_callVI (vs := [.int (nI 18), .int v4, .int v7]) hX (fun _ h9 => m_X0_make hX.2.2.2.2.2.2.1  h9) io_13 rfl ml_X0_81 ⟨Nat.le_of_ble_eq_true rfl, Nat.le_of_ble_eq_true rfl⟩ rfl rfl (Nat.le_of_ble_eq_true rfl) dX0_opposite_219 (fun q19 => ?_)
      refine k_ast hX locC ia_14 dX0_opposite_222 (fun M20 => ?_)
      refine k_goto (tgt := 249) hX dX0_opposite_223 (by decide) ?_
      exact w_X0_opposite_249 hX ih x1 x2 M20 ⟨rfl, rfl, rfl, trivial⟩
    replace b9 := ne_toInt (k := 16) b9 (by decide)
    replace b12 := ne_toInt (k := 17) b12 (by decide)
    replace b15 := ne_toInt (k := 18) b15 (by decide)
    replace b18 := ne_toInt (k := 19) b18 (by decide)
    refine k_tabOut (tgt := 226) hX dX0_opposite_124 (by omega) (by decide) ?_
    refine k_aload_n hX (i := 0) rfl rfl dX0_opposite_226 ?_
    refine k_get hX io_13 fl_X0_9 rfl dX0_opposite_227 ?_
    refine k_iload_n hX (i := 2) rfl rfl dX0_opposite_230 ?_
    refine k_aload_n hX (i := 0) rfl rfl dX0_opposite_231 ?_
    refine k_iload_n hX (i := 2) rfl rfl dX0_opposite_232 ?_
    refine k_bipush (v := (nI 41)) hX rfl dX0_opposite_233 ?_
    refine k_aload_n hX (i := 0) rfl rfl dX0_opposite_235 ?_
    refine k_get hX io_13 fl_X0_21 rfl dX0_opposite_236 ?_
    refine k_get hX io_1 fl_X0_35 rfl dX0_opposite_239 ?_
    refine k_iload_n hX (i := 2) rfl rfl dX0_opposite_242 ?_
    refine k_ald hX ia_2 dX0_opposite_243 (fun v21 => ?_)
    refine k_isub hX dX0_opposite_244 ?_
    refine k_callVI (vs := [.int x2, .int ((nI 41) - v21)]) hX (fun _ h9 => m_X0_joinKids hX.2.2.2.2.2.2.1  h9) io_13 rfl ml_X0_78 ⟨Nat.le_of_ble_eq_true rfl, Nat.le_of_ble_eq_true rfl⟩ rfl rfl (Nat.le_of_ble_eq_true rfl) dX0_opposite_245 (fun q22 => ?_)
    refine k_ast hX locC ia_14 dX0_opposite_248 (fun M23 => ?_)
    exact w_X0_opposite_249 hX ih x1 x2 M23 ⟨rfl, rfl, rfl, trivial⟩
set_option maxHeartbeats 4000000 in
set_option maxRecDepth 100000 in
theorem w_X0_opposite_30 {l : Launch} {G : GL} {ad : Nat → Nat} {MM : Mem} {X : CT} (hX : Cx l { frames := 4, cells := 0, slots := 0, locals := 104 } cX0_opposite RX0 5 (some .int) G ad X) : ∀ (n : Nat), ∀ (x1 : Int32) (x2 : Int32) (M : Mem) {L : List (Option Value)}, lsub [some (.ref (ad 13)), some (.int x1), some (.int x2), none, none] L → KF l { frames := 4, cells := 0, slots := 0, locals := 104 } 5 G ad (EC G ad MM) (QP PostI G ad (EC G ad MM)) X (f_X0_opposite_30 n x1 x2 M) L 30 [] M := by
  intro n
  induction n with
  | zero =>
    intro x1 x2 M L hL
    exact KF.none'
  | succ n ih =>
    intro x1 x2 M L hL
    rw [f_X0_opposite_30]
    refine KF.locals (lsub_le hL) ?_
    refine k_iload_n hX (i := 2) rfl rfl dX0_opposite_30 ?_
    refine k_bipush (v := (nI 6)) hX rfl dX0_opposite_31 ?_
    refine k_icmp_ge (tgt := 66) hX dX0_opposite_33 (by decide) (fun b1 => ?_) (fun b1 => ?_)
    · refine k_bipush (v := (nI 16)) hX rfl dX0_opposite_66 ?_
      refine k_istore_n (L' := [some (.ref (ad 13)), some (.int x1), some (.int (nI 16)), none, none]) hX (i := 2) rfl (by decide) rfl dX0_opposite_68 ?_
      exact w_X0_opposite_69 hX fuelN x1 (nI 16) M ⟨rfl, rfl, rfl, trivial⟩
    refine k_aload_n hX (i := 0) rfl rfl dX0_opposite_36 ?_
    refine k_get hX io_13 fl_X0_9 rfl dX0_opposite_37 ?_
    refine k_iconst (v := (nI 4)) hX rfl dX0_opposite_40 ?_
    refine k_iload_n hX (i := 2) rfl rfl dX0_opposite_41 ?_
    refine k_iadd hX dX0_opposite_42 ?_
    refine k_bipush (v := (nI 10)) hX rfl dX0_opposite_43 ?_
    refine k_iload_n hX (i := 2) rfl rfl dX0_opposite_45 ?_
    refine k_iadd hX dX0_opposite_46 ?_
    refine k_ast hX locC ia_14 dX0_opposite_47 (fun M2 => ?_)
    refine k_aload_n hX (i := 0) rfl rfl dX0_opposite_48 ?_
    refine k_get hX io_13 fl_X0_9 rfl dX0_opposite_49 ?_
    refine k_bipush (v := (nI 10)) hX rfl dX0_opposite_52 ?_
    refine k_iload_n hX (i := 2) rfl rfl dX0_opposite_54 ?_
    refine k_iadd hX dX0_opposite_55 ?_
    refine k_iconst (v := (nI 4)) hX rfl dX0_opposite_56 ?_
    refine k_iload_n hX (i := 2) rfl rfl dX0_opposite_57 ?_
    refine k_iadd hX dX0_opposite_58 ?_
    refine k_ast hX locC ia_14 dX0_opposite_59 (fun M3 => ?_)
    refine k_iinc (v := x2 + nI 1) (L' := [some (.ref (ad 13)), some (.int x1), some (.int (x2 + nI 1)), none, none]) hX (i := 2) rfl rfl (by decide) rfl dX0_opposite_60 ?_
    refine k_goto (tgt := 30) hX dX0_opposite_63 (by decide) ?_
    exact ih x1 (x2 + nI 1) M3 ⟨rfl, rfl, rfl, trivial⟩
set_option maxHeartbeats 4000000 in
set_option maxRecDepth 100000 in
theorem w_X0_opposite {l : Launch} {G : GL} {ad : Nat → Nat} {MM : Mem} {X : CT} (hX : Cx l { frames := 4, cells := 0, slots := 0, locals := 104 } cX0_opposite RX0 5 (some .int) G ad X) {p1 : Int32} {M : Mem} : KF l { frames := 4, cells := 0, slots := 0, locals := 104 } 5 G ad (EC G ad MM) (QP PostI G ad (EC G ad MM)) X (f_X0_opposite p1 M) [some (.ref (ad 13)), some (.int p1), none, none, none] 0 [] M := by
  unfold f_X0_opposite
  refine k_aload_n hX (i := 0) rfl rfl dX0_opposite_0 ?_
  refine k_get hX io_13 fl_X0_9 rfl dX0_opposite_1 ?_
  refine k_iconst (v := (nI 0)) hX rfl dX0_opposite_4 ?_
  refine k_iconst (v := (nI 1)) hX rfl dX0_opposite_5 ?_
  refine k_ast hX locC ia_14 dX0_opposite_6 (fun M1 => ?_)
  refine k_aload_n hX (i := 0) rfl rfl dX0_opposite_7 ?_
  refine k_get hX io_13 fl_X0_9 rfl dX0_opposite_8 ?_
  refine k_iconst (v := (nI 1)) hX rfl dX0_opposite_11 ?_
  refine k_iconst (v := (nI 0)) hX rfl dX0_opposite_12 ?_
  refine k_ast hX locC ia_14 dX0_opposite_13 (fun M2 => ?_)
  refine k_aload_n hX (i := 0) rfl rfl dX0_opposite_14 ?_
  refine k_get hX io_13 fl_X0_9 rfl dX0_opposite_15 ?_
  refine k_iconst (v := (nI 2)) hX rfl dX0_opposite_18 ?_
  refine k_iconst (v := (nI 3)) hX rfl dX0_opposite_19 ?_
  refine k_ast hX locC ia_14 dX0_opposite_20 (fun M3 => ?_)
  refine k_aload_n hX (i := 0) rfl rfl dX0_opposite_21 ?_
  refine k_get hX io_13 fl_X0_9 rfl dX0_opposite_22 ?_
  refine k_iconst (v := (nI 3)) hX rfl dX0_opposite_25 ?_
  refine k_iconst (v := (nI 2)) hX rfl dX0_opposite_26 ?_
  refine k_ast hX locC ia_14 dX0_opposite_27 (fun M4 => ?_)
  refine k_iconst (v := (nI 0)) hX rfl dX0_opposite_28 ?_
  refine k_istore_n (L' := [some (.ref (ad 13)), some (.int p1), some (.int (nI 0)), none, none]) hX (i := 2) rfl (by decide) rfl dX0_opposite_29 ?_
  exact w_X0_opposite_30 hX fuelN p1 (nI 0) M4 ⟨rfl, rfl, rfl, trivial⟩
set_option maxRecDepth 100000 in
theorem m_X0_opposite {l : Launch} {G : GL} {ad : Nat → Nat} {MM : Mem} (hAd : AdOK G ad) {p1 : Int32} {M : Mem} {r : Rv} (h : f_X0_opposite p1 M = some r) : Ct PostI l G ad (EC G ad MM) yX0_opposite cX0_opposite 5 (some .int) 4 104 [.ref (ad 13), .int p1] M r := ct_of' hAd (by decide +kernel) (List.forall_mem_cons.mpr ⟨rfl, (List.forall_mem_cons.mpr ⟨rfl, (fun _ h => absurd h List.not_mem_nil)⟩)⟩) (Nat.le_of_ble_eq_true rfl) (L := [some (.ref (ad 13)), some (.int p1), none, none, none]) rfl (fun _ hX => w_X0_opposite hX) h
set_option maxHeartbeats 4000000 in
set_option maxRecDepth 100000 in
theorem w_X1_release_56 {l : Launch} {G : GL} {ad : Nat → Nat} {MM : Mem} {X : CT} (hX : Cx l { frames := 0, cells := 0, slots := 0, locals := 0 } cX1_release RX1 3 none G ad X) : ∀ (M : Mem) {L : List (Option Value)}, lsub [none, none, none] L → KF l { frames := 0, cells := 0, slots := 0, locals := 0 } 3 G ad (EC G ad MM) (QP PostV G ad (EC G ad MM)) X (f_X1_release_56 M) L 56 [] M := by
  intro M L hL
  unfold f_X1_release_56
  refine KF.locals (lsub_le hL) ?_
  exact k_vret hX dX1_release_56
set_option maxHeartbeats 4000000 in
set_option maxRecDepth 100000 in
theorem w_X1_release_7 {l : Launch} {G : GL} {ad : Nat → Nat} {MM : Mem} {X : CT} (hX : Cx l { frames := 0, cells := 0, slots := 0, locals := 0 } cX1_release RX1 3 none G ad X) : ∀ (n : Nat), ∀ (x1 : Int32) (x2 : Int32) (M : Mem) {L : List (Option Value)}, lsub [some (.ref (ad 1)), some (.int x1), some (.int x2)] L → KF l { frames := 0, cells := 0, slots := 0, locals := 0 } 3 G ad (EC G ad MM) (QP PostV G ad (EC G ad MM)) X (f_X1_release_7 n x1 x2 M) L 7 [] M := by
  intro n
  induction n with
  | zero =>
    intro x1 x2 M L hL
    exact KF.none'
  | succ n ih =>
    intro x1 x2 M L hL
    rw [f_X1_release_7]
    refine KF.locals (lsub_le hL) ?_
    refine k_iload_n hX (i := 2) rfl rfl dX1_release_7 ?_
    refine k_iload_n hX (i := 1) rfl rfl dX1_release_8 ?_
    refine k_icmp_lt (tgt := 56) hX dX1_release_9 (by decide) (fun b1 => ?_) (fun b1 => ?_)
    · exact w_X1_release_56 hX M trivial
    refine k_iload_n hX (i := 2) rfl rfl dX1_release_12 ?_
    refine k_bipush (v := (nI 16)) hX rfl dX1_release_13 ?_
    refine k_icmp_lt (tgt := 56) hX dX1_release_15 (by decide) (fun b2 => ?_) (fun b2 => ?_)
    · exact w_X1_release_56 hX M trivial
    refine k_aload_n hX (i := 0) rfl rfl dX1_release_18 ?_
    refine k_get hX io_1 fl_X1_38 rfl dX1_release_19 ?_
    refine k_aload_n hX (i := 0) rfl rfl dX1_release_22 ?_
    refine k_get hX io_1 fl_X1_44 rfl dX1_release_23 ?_
    refine k_iload_n hX (i := 2) rfl rfl dX1_release_26 ?_
    refine k_ald hX ia_12 dX1_release_27 (fun v3 => ?_)
    refine k_aload_n hX (i := 0) rfl rfl dX1_release_28 ?_
    refine k_get hX io_1 fl_X1_41 rfl dX1_release_29 ?_
    refine k_iload_n hX (i := 2) rfl rfl dX1_release_32 ?_
    refine k_ald hX ia_11 dX1_release_33 (fun v4 => ?_)
    refine k_ast hX locC ia_10 dX1_release_34 (fun M5 => ?_)
    refine k_aload_n hX (i := 0) rfl rfl dX1_release_35 ?_
    refine k_aload_n hX (i := 0) rfl rfl dX1_release_36 ?_
    refine k_get hX io_1 fl_X1_15 rfl dX1_release_37 ?_
    refine k_iload_n hX (i := 2) rfl rfl dX1_release_40 ?_
    refine k_ald hX ia_3 dX1_release_41 (fun v6 => ?_)
    refine k_puti hX locC io_1 fp_X1_54 (Nat.le_of_ble_eq_true rfl) rfl dX1_release_42 (fun M7 => ?_)
    refine k_aload_n hX (i := 0) rfl rfl dX1_release_45 ?_
    refine k_iload_n hX (i := 2) rfl rfl dX1_release_46 ?_
    refine k_puti hX locC io_1 fp_X1_47 (Nat.le_of_ble_eq_true rfl) rfl dX1_release_47 (fun M8 => ?_)
    refine k_iinc (v := x2 - nI 1) (L' := [some (.ref (ad 1)), some (.int x1), some (.int (x2 - nI 1))]) hX (i := 2) rfl (iinc_neg _ _ rfl) (by decide) rfl dX1_release_50 ?_
    refine k_goto (tgt := 7) hX dX1_release_53 (by decide) ?_
    exact ih x1 (x2 - nI 1) M8 ⟨rfl, rfl, rfl, trivial⟩
set_option maxHeartbeats 4000000 in
set_option maxRecDepth 100000 in
theorem w_X1_release {l : Launch} {G : GL} {ad : Nat → Nat} {MM : Mem} {X : CT} (hX : Cx l { frames := 0, cells := 0, slots := 0, locals := 0 } cX1_release RX1 3 none G ad X) {p1 : Int32} {M : Mem} : KF l { frames := 0, cells := 0, slots := 0, locals := 0 } 3 G ad (EC G ad MM) (QP PostV G ad (EC G ad MM)) X (f_X1_release p1 M) [some (.ref (ad 1)), some (.int p1), none] 0 [] M := by
  unfold f_X1_release
  refine k_aload_n hX (i := 0) rfl rfl dX1_release_0 ?_
  refine k_get hX io_1 fl_X1_47 rfl dX1_release_1 ?_
  refine k_iconst (v := (nI 1)) hX rfl dX1_release_4 ?_
  refine k_isub hX dX1_release_5 ?_
  refine k_istore_n (L' := [some (.ref (ad 1)), some (.int p1), some (.int ((M 1 11) - (nI 1)))]) hX (i := 2) rfl (by decide) rfl dX1_release_6 ?_
  exact w_X1_release_7 hX fuelN p1 ((M 1 11) - (nI 1)) M ⟨rfl, rfl, rfl, trivial⟩
set_option maxRecDepth 100000 in
theorem m_X1_release {l : Launch} {G : GL} {ad : Nat → Nat} {MM : Mem} (hAd : AdOK G ad) {p1 : Int32} {M : Mem} {r : Rv} (h : f_X1_release p1 M = some r) : Ct PostV l G ad (EC G ad MM) yX1_release cX1_release 3 none 0 0 [.ref (ad 1), .int p1] M r := ct_of' hAd (by decide +kernel) (List.forall_mem_cons.mpr ⟨rfl, (List.forall_mem_cons.mpr ⟨rfl, (fun _ h => absurd h List.not_mem_nil)⟩)⟩) (Nat.le_of_ble_eq_true rfl) (L := [some (.ref (ad 1)), some (.int p1), none]) rfl (fun _ hX => w_X1_release hX) h
set_option maxHeartbeats 4000000 in
set_option maxRecDepth 100000 in
theorem w_X2_append {l : Launch} {G : GL} {ad : Nat → Nat} {MM : Mem} {X : CT} (hX : Cx l { frames := 0, cells := 0, slots := 0, locals := 0 } cX2_append RX2 2 (some .boolean) G ad X) {p1 : Int32} {M : Mem} : KF l { frames := 0, cells := 0, slots := 0, locals := 0 } 2 G ad (EC G ad MM) (QP PostI G ad (EC G ad MM)) X (f_X2_append p1 M) [some (.ref (ad 22)), some (.int p1)] 0 [] M := by
  unfold f_X2_append
  refine k_aload_n hX (i := 0) rfl rfl dX2_append_0 ?_
  refine k_get hX io_22 fl_X2_30 rfl dX2_append_1 ?_
  refine k_bipush (v := (nI 60)) hX rfl dX2_append_4 ?_
  refine k_icmp_lt (tgt := 11) hX dX2_append_6 (by decide) (fun b1 => ?_) (fun b1 => ?_)
  · refine k_aload_n hX (i := 0) rfl rfl dX2_append_11 ?_
    refine k_get hX io_22 fl_X2_9 rfl dX2_append_12 ?_
    refine k_aload_n hX (i := 0) rfl rfl dX2_append_15 ?_
    refine k_get hX io_22 fl_X2_30 rfl dX2_append_16 ?_
    refine k_iload_n hX (i := 1) rfl rfl dX2_append_19 ?_
    refine k_cast hX locC ia_23 dX2_append_20 (fun M2 => ?_)
    refine k_aload_n hX (i := 0) rfl rfl dX2_append_21 ?_
    refine k_dup hX rfl dX2_append_22 ?_
    refine k_get hX io_22 fl_X2_30 rfl dX2_append_23 ?_
    refine k_iconst (v := (nI 1)) hX rfl dX2_append_26 ?_
    refine k_iadd hX dX2_append_27 ?_
    refine k_puti hX locC io_22 fp_X2_30 (Nat.le_of_ble_eq_true rfl) rfl dX2_append_28 (fun M3 => ?_)
    refine k_iconst (v := (nI 1)) hX rfl dX2_append_31 ?_
    exact k_zret hX dX2_append_32
  refine k_iconst (v := (nI 0)) hX rfl dX2_append_9 ?_
  exact k_zret hX dX2_append_10
set_option maxRecDepth 100000 in
theorem m_X2_append {l : Launch} {G : GL} {ad : Nat → Nat} {MM : Mem} (hAd : AdOK G ad) {p1 : Int32} {M : Mem} {r : Rv} (h : f_X2_append p1 M = some r) : Ct PostI l G ad (EC G ad MM) yX2_append cX2_append 2 (some .boolean) 0 0 [.ref (ad 22), .int p1] M r := ct_of' hAd (by decide +kernel) (List.forall_mem_cons.mpr ⟨rfl, (List.forall_mem_cons.mpr ⟨rfl, (fun _ h => absurd h List.not_mem_nil)⟩)⟩) (Nat.le_of_ble_eq_true rfl) (L := [some (.ref (ad 22)), some (.int p1)]) rfl (fun _ hX => w_X2_append hX) h
set_option maxHeartbeats 4000000 in
set_option maxRecDepth 100000 in
theorem w_X2_binding {l : Launch} {G : GL} {ad : Nat → Nat} {MM : Mem} {X : CT} (hX : Cx l { frames := 0, cells := 0, slots := 0, locals := 0 } cX2_binding RX2 1 (some .int) G ad X) {p1 : Int32} {M : Mem} : KF l { frames := 0, cells := 0, slots := 0, locals := 0 } 1 G ad (EC G ad MM) (QP PostI G ad (EC G ad MM)) X (f_X2_binding p1 M) [some (.int p1)] 0 [] M := by
  unfold f_X2_binding
  refine k_iload_n hX (i := 0) rfl rfl dX2_binding_0 ?_
  refine KF.ite (fun b1 => ?_) (fun b1 => ?_)
  · refine k_look (off := 45) (tgt := 46) hX dX2_binding_1 (by decide) (by rw [b1]; decide) (by decide) ?_
    refine k_iconst (v := (nI 2)) hX rfl dX2_binding_46 ?_
    exact k_iret hX dX2_binding_47
  refine KF.ite (fun b2 => ?_) (fun b2 => ?_)
  · refine k_look (off := 49) (tgt := 50) hX dX2_binding_1 (by decide) (by rw [b2]; decide) (by decide) ?_
    refine k_iconst (v := (nI 3)) hX rfl dX2_binding_50 ?_
    exact k_iret hX dX2_binding_51
  refine KF.ite (fun b3 => ?_) (fun b3 => ?_)
  · refine k_look (off := 47) (tgt := 48) hX dX2_binding_1 (by decide) (by rw [b3]; decide) (by decide) ?_
    refine k_iconst (v := (nI 3)) hX rfl dX2_binding_48 ?_
    exact k_iret hX dX2_binding_49
  refine KF.ite (fun b4 => ?_) (fun b4 => ?_)
  · refine k_look (off := 43) (tgt := 44) hX dX2_binding_1 (by decide) (by rw [b4]; decide) (by decide) ?_
    refine k_iconst (v := (nI 1)) hX rfl dX2_binding_44 ?_
    exact k_iret hX dX2_binding_45
  refine k_look (off := 51) (tgt := 52) hX dX2_binding_1 (by decide) (by show Op.lookupswitch.offset [(38, 45), (82, 49), (85, 47), (124, 43)] _ _ = _; rw [lv_osw b1 (by decide), lv_osw b2 (by decide), lv_osw b3 (by decide), lv_osw b4 (by decide)]; rfl) (by decide) ?_
  refine k_iconst (v := (nI 0)) hX rfl dX2_binding_52 ?_
  exact k_iret hX dX2_binding_53
set_option maxRecDepth 100000 in
theorem m_X2_binding {l : Launch} {G : GL} {ad : Nat → Nat} {MM : Mem} (hAd : AdOK G ad) {p1 : Int32} {M : Mem} {r : Rv} (h : f_X2_binding p1 M = some r) : Ct PostI l G ad (EC G ad MM) yX2_binding cX2_binding 1 (some .int) 0 0 [.int p1] M r := ct_of' hAd (by decide +kernel) (List.forall_mem_cons.mpr ⟨rfl, (fun _ h => absurd h List.not_mem_nil)⟩) (Nat.le_of_ble_eq_true rfl) (L := [some (.int p1)]) rfl (fun _ hX => w_X2_binding hX) h
set_option maxHeartbeats 4000000 in
set_option maxRecDepth 100000 in
theorem w_X2_isBetween_12 {l : Launch} {G : GL} {ad : Nat → Nat} {MM : Mem} {X : CT} (hX : Cx l { frames := 1, cells := 0, slots := 0, locals := 20 } cX2_isBetween RX2 1 (some .boolean) G ad X) : ∀ (s0 : Int32) (M : Mem) {L : List (Option Value)}, lsub [none] L → KF l { frames := 1, cells := 0, slots := 0, locals := 20 } 1 G ad (EC G ad MM) (QP PostI G ad (EC G ad MM)) X (f_X2_isBetween_12 s0 M) L 12 [.int s0] M := by
  intro s0 M L hL
  unfold f_X2_isBetween_12
  refine KF.locals (lsub_le hL) ?_
  exact k_zret hX dX2_isBetween_12
set_option maxHeartbeats 4000000 in
set_option maxRecDepth 100000 in
theorem w_X2_isBetween {l : Launch} {G : GL} {ad : Nat → Nat} {MM : Mem} {X : CT} (hX : Cx l { frames := 1, cells := 0, slots := 0, locals := 20 } cX2_isBetween RX2 1 (some .boolean) G ad X) {p1 : Int32} {M : Mem} : KF l { frames := 1, cells := 0, slots := 0, locals := 20 } 1 G ad (EC G ad MM) (QP PostI G ad (EC G ad MM)) X (f_X2_isBetween p1 M) [some (.int p1)] 0 [] M := by
  unfold f_X2_isBetween
  refine k_iload_n hX (i := 0) rfl rfl dX2_isBetween_0 ?_
  refine k_callSI (vs := [.int p1]) hX (fun _ h9 => m_X2_binding hX.2.2.2.2.2.2.1  h9) ml_X2_81 ⟨Nat.le_of_ble_eq_true rfl, Nat.le_of_ble_eq_true rfl⟩ rfl rfl (Nat.le_of_ble_eq_true rfl) dX2_isBetween_1 (fun q1 => ?_)
  refine k_if_le (tgt := 11) hX dX2_isBetween_4 (by decide) (fun b2 => ?_) (fun b2 => ?_)
  · refine k_iconst (v := (nI 0)) hX rfl dX2_isBetween_11 ?_
    exact w_X2_isBetween_12 hX (nI 0) q1.2 trivial
  refine k_iconst (v := (nI 1)) hX rfl dX2_isBetween_7 ?_
  refine k_goto (tgt := 12) hX dX2_isBetween_8 (by decide) ?_
  exact w_X2_isBetween_12 hX (nI 1) q1.2 trivial
set_option maxRecDepth 100000 in
theorem m_X2_isBetween {l : Launch} {G : GL} {ad : Nat → Nat} {MM : Mem} (hAd : AdOK G ad) {p1 : Int32} {M : Mem} {r : Rv} (h : f_X2_isBetween p1 M = some r) : Ct PostI l G ad (EC G ad MM) yX2_isBetween cX2_isBetween 1 (some .boolean) 1 20 [.int p1] M r := ct_of' hAd (by decide +kernel) (List.forall_mem_cons.mpr ⟨rfl, (fun _ h => absurd h List.not_mem_nil)⟩) (Nat.le_of_ble_eq_true rfl) (L := [some (.int p1)]) rfl (fun _ hX => w_X2_isBetween hX) h
set_option maxHeartbeats 4000000 in
set_option maxRecDepth 100000 in
theorem w_X2_isInFront_35 {l : Launch} {G : GL} {ad : Nat → Nat} {MM : Mem} {X : CT} (hX : Cx l { frames := 0, cells := 0, slots := 0, locals := 0 } cX2_isInFront RX2 1 (some .boolean) G ad X) : ∀ (s0 : Int32) (M : Mem) {L : List (Option Value)}, lsub [none] L → KF l { frames := 0, cells := 0, slots := 0, locals := 0 } 1 G ad (EC G ad MM) (QP PostI G ad (EC G ad MM)) X (f_X2_isInFront_35 s0 M) L 35 [.int s0] M := by
  intro s0 M L hL
  unfold f_X2_isInFront_35
  refine KF.locals (lsub_le hL) ?_
  exact k_zret hX dX2_isInFront_35
set_option maxHeartbeats 4000000 in
set_option maxRecDepth 100000 in
theorem w_X2_isInFront_30 {l : Launch} {G : GL} {ad : Nat → Nat} {MM : Mem} {X : CT} (hX : Cx l { frames := 0, cells := 0, slots := 0, locals := 0 } cX2_isInFront RX2 1 (some .boolean) G ad X) : ∀ (M : Mem) {L : List (Option Value)}, lsub [none] L → KF l { frames := 0, cells := 0, slots := 0, locals := 0 } 1 G ad (EC G ad MM) (QP PostI G ad (EC G ad MM)) X (f_X2_isInFront_30 M) L 30 [] M := by
  intro M L hL
  unfold f_X2_isInFront_30
  refine KF.locals (lsub_le hL) ?_
  refine k_iconst (v := (nI 1)) hX rfl dX2_isInFront_30 ?_
  refine k_goto (tgt := 35) hX dX2_isInFront_31 (by decide) ?_
  exact w_X2_isInFront_35 hX (nI 1) M trivial
set_option maxHeartbeats 4000000 in
set_option maxRecDepth 100000 in
theorem w_X2_isInFront {l : Launch} {G : GL} {ad : Nat → Nat} {MM : Mem} {X : CT} (hX : Cx l { frames := 0, cells := 0, slots := 0, locals := 0 } cX2_isInFront RX2 1 (some .boolean) G ad X) {p1 : Int32} {M : Mem} : KF l { frames := 0, cells := 0, slots := 0, locals := 0 } 1 G ad (EC G ad MM) (QP PostI G ad (EC G ad MM)) X (f_X2_isInFront p1 M) [some (.int p1)] 0 [] M := by
  unfold f_X2_isInFront
  refine k_iload_n hX (i := 0) rfl rfl dX2_isInFront_0 ?_
  refine k_bipush (v := (nI 33)) hX rfl dX2_isInFront_1 ?_
  refine k_icmp_eq (tgt := 30) hX dX2_isInFront_3 (by decide) (fun b1 => ?_) (fun b1 => ?_)
  · exact w_X2_isInFront_30 hX M trivial
  refine k_iload_n hX (i := 0) rfl rfl dX2_isInFront_6 ?_
  refine k_bipush (v := (nI 88)) hX rfl dX2_isInFront_7 ?_
  refine k_icmp_eq (tgt := 30) hX dX2_isInFront_9 (by decide) (fun b2 => ?_) (fun b2 => ?_)
  · exact w_X2_isInFront_30 hX M trivial
  refine k_iload_n hX (i := 0) rfl rfl dX2_isInFront_12 ?_
  refine k_bipush (v := (nI 78)) hX rfl dX2_isInFront_13 ?_
  refine k_icmp_eq (tgt := 30) hX dX2_isInFront_15 (by decide) (fun b3 => ?_) (fun b3 => ?_)
  · exact w_X2_isInFront_30 hX M trivial
  refine k_iload_n hX (i := 0) rfl rfl dX2_isInFront_18 ?_
  refine k_bipush (v := (nI 71)) hX rfl dX2_isInFront_19 ?_
  refine k_icmp_eq (tgt := 30) hX dX2_isInFront_21 (by decide) (fun b4 => ?_) (fun b4 => ?_)
  · exact w_X2_isInFront_30 hX M trivial
  refine k_iload_n hX (i := 0) rfl rfl dX2_isInFront_24 ?_
  refine k_bipush (v := (nI 70)) hX rfl dX2_isInFront_25 ?_
  refine k_icmp_ne (tgt := 34) hX dX2_isInFront_27 (by decide) (fun b5 => ?_) (fun b5 => ?_)
  · refine k_iconst (v := (nI 0)) hX rfl dX2_isInFront_34 ?_
    exact w_X2_isInFront_35 hX (nI 0) M trivial
  exact w_X2_isInFront_30 hX M trivial
set_option maxRecDepth 100000 in
theorem m_X2_isInFront {l : Launch} {G : GL} {ad : Nat → Nat} {MM : Mem} (hAd : AdOK G ad) {p1 : Int32} {M : Mem} {r : Rv} (h : f_X2_isInFront p1 M = some r) : Ct PostI l G ad (EC G ad MM) yX2_isInFront cX2_isInFront 1 (some .boolean) 0 0 [.int p1] M r := ct_of' hAd (by decide +kernel) (List.forall_mem_cons.mpr ⟨rfl, (fun _ h => absurd h List.not_mem_nil)⟩) (Nat.le_of_ble_eq_true rfl) (L := [some (.int p1)]) rfl (fun _ hX => w_X2_isInFront hX) h
set_option maxHeartbeats 4000000 in
set_option maxRecDepth 100000 in
theorem w_X2_isValue_29 {l : Launch} {G : GL} {ad : Nat → Nat} {MM : Mem} {X : CT} (hX : Cx l { frames := 0, cells := 0, slots := 0, locals := 0 } cX2_isValue RX2 1 (some .boolean) G ad X) : ∀ (s0 : Int32) (M : Mem) {L : List (Option Value)}, lsub [none] L → KF l { frames := 0, cells := 0, slots := 0, locals := 0 } 1 G ad (EC G ad MM) (QP PostI G ad (EC G ad MM)) X (f_X2_isValue_29 s0 M) L 29 [.int s0] M := by
  intro s0 M L hL
  unfold f_X2_isValue_29
  refine KF.locals (lsub_le hL) ?_
  exact k_zret hX dX2_isValue_29
set_option maxHeartbeats 4000000 in
set_option maxRecDepth 100000 in
theorem w_X2_isValue_24 {l : Launch} {G : GL} {ad : Nat → Nat} {MM : Mem} {X : CT} (hX : Cx l { frames := 0, cells := 0, slots := 0, locals := 0 } cX2_isValue RX2 1 (some .boolean) G ad X) : ∀ (M : Mem) {L : List (Option Value)}, lsub [none] L → KF l { frames := 0, cells := 0, slots := 0, locals := 0 } 1 G ad (EC G ad MM) (QP PostI G ad (EC G ad MM)) X (f_X2_isValue_24 M) L 24 [] M := by
  intro M L hL
  unfold f_X2_isValue_24
  refine KF.locals (lsub_le hL) ?_
  refine k_iconst (v := (nI 1)) hX rfl dX2_isValue_24 ?_
  refine k_goto (tgt := 29) hX dX2_isValue_25 (by decide) ?_
  exact w_X2_isValue_29 hX (nI 1) M trivial
set_option maxHeartbeats 4000000 in
set_option maxRecDepth 100000 in
theorem w_X2_isValue_28 {l : Launch} {G : GL} {ad : Nat → Nat} {MM : Mem} {X : CT} (hX : Cx l { frames := 0, cells := 0, slots := 0, locals := 0 } cX2_isValue RX2 1 (some .boolean) G ad X) : ∀ (M : Mem) {L : List (Option Value)}, lsub [none] L → KF l { frames := 0, cells := 0, slots := 0, locals := 0 } 1 G ad (EC G ad MM) (QP PostI G ad (EC G ad MM)) X (f_X2_isValue_28 M) L 28 [] M := by
  intro M L hL
  unfold f_X2_isValue_28
  refine KF.locals (lsub_le hL) ?_
  refine k_iconst (v := (nI 0)) hX rfl dX2_isValue_28 ?_
  exact w_X2_isValue_29 hX (nI 0) M trivial
set_option maxHeartbeats 4000000 in
set_option maxRecDepth 100000 in
theorem w_X2_isValue {l : Launch} {G : GL} {ad : Nat → Nat} {MM : Mem} {X : CT} (hX : Cx l { frames := 0, cells := 0, slots := 0, locals := 0 } cX2_isValue RX2 1 (some .boolean) G ad X) {p1 : Int32} {M : Mem} : KF l { frames := 0, cells := 0, slots := 0, locals := 0 } 1 G ad (EC G ad MM) (QP PostI G ad (EC G ad MM)) X (f_X2_isValue p1 M) [some (.int p1)] 0 [] M := by
  unfold f_X2_isValue
  refine k_iload_n hX (i := 0) rfl rfl dX2_isValue_0 ?_
  refine k_bipush (v := (nI 48)) hX rfl dX2_isValue_1 ?_
  refine k_icmp_eq (tgt := 24) hX dX2_isValue_3 (by decide) (fun b1 => ?_) (fun b1 => ?_)
  · exact w_X2_isValue_24 hX M trivial
  refine k_iload_n hX (i := 0) rfl rfl dX2_isValue_6 ?_
  refine k_bipush (v := (nI 49)) hX rfl dX2_isValue_7 ?_
  refine k_icmp_eq (tgt := 24) hX dX2_isValue_9 (by decide) (fun b2 => ?_) (fun b2 => ?_)
  · exact w_X2_isValue_24 hX M trivial
  refine k_iload_n hX (i := 0) rfl rfl dX2_isValue_12 ?_
  refine k_bipush (v := (nI 97)) hX rfl dX2_isValue_13 ?_
  refine k_icmp_lt (tgt := 28) hX dX2_isValue_15 (by decide) (fun b3 => ?_) (fun b3 => ?_)
  · exact w_X2_isValue_28 hX M trivial
  refine k_iload_n hX (i := 0) rfl rfl dX2_isValue_18 ?_
  refine k_bipush (v := (nI 102)) hX rfl dX2_isValue_19 ?_
  refine k_icmp_gt (tgt := 28) hX dX2_isValue_21 (by decide) (fun b4 => ?_) (fun b4 => ?_)
  · exact w_X2_isValue_28 hX M trivial
  exact w_X2_isValue_24 hX M trivial
set_option maxRecDepth 100000 in
theorem m_X2_isValue {l : Launch} {G : GL} {ad : Nat → Nat} {MM : Mem} (hAd : AdOK G ad) {p1 : Int32} {M : Mem} {r : Rv} (h : f_X2_isValue p1 M = some r) : Ct PostI l G ad (EC G ad MM) yX2_isValue cX2_isValue 1 (some .boolean) 0 0 [.int p1] M r := ct_of' hAd (by decide +kernel) (List.forall_mem_cons.mpr ⟨rfl, (fun _ h => absurd h List.not_mem_nil)⟩) (Nat.le_of_ble_eq_true rfl) (L := [some (.int p1)]) rfl (fun _ hX => w_X2_isValue hX) h
set_option maxHeartbeats 4000000 in
set_option maxRecDepth 100000 in
theorem w_X2_findFault_99 {l : Launch} {G : GL} {ad : Nat → Nat} {MM : Mem} {X : CT} (hX : Cx l { frames := 2, cells := 0, slots := 0, locals := 40 } cX2_findFault RX2 5 (some .int) G ad X) {k6 : Int32 → Int32 → Int32 → Mem → Option Rv} (hk6 : ∀ (x1 : Int32) (x2 : Int32) (x3 : Int32) (M : Mem) {L : List (Option Value)}, lsub [some (.ref (ad 22)), some (.int x1), some (.int x2), some (.int x3), none] L → KF l { frames := 2, cells := 0, slots := 0, locals := 40 } 5 G ad (EC G ad MM) (QP PostI G ad (EC G ad MM)) X (k6 x1 x2 x3 M) L 6 [] M) : ∀ (x1 : Int32) (x2 : Int32) (x3 : Int32) (M : Mem) {L : List (Option Value)}, lsub [some (.ref (ad 22)), some (.int x1), some (.int x2), some (.int x3), none] L → KF l { frames := 2, cells := 0, slots := 0, locals := 40 } 5 G ad (EC G ad MM) (QP PostI G ad (EC G ad MM)) X (f_X2_findFault_99 k6 x1 x2 x3 M) L 99 [] M := by
  intro x1 x2 x3 M L hL
  unfold f_X2_findFault_99
  refine KF.locals (lsub_le hL) ?_
  refine k_iinc (v := x3 + nI 1) (L' := [some (.ref (ad 22)), some (.int x1), some (.int x2), some (.int (x3 + nI 1)), none]) hX (i := 3) rfl rfl (by decide) rfl dX2_findFault_99 ?_
  refine k_goto (tgt := 6) hX dX2_findFault_102 (by decide) ?_
  exact hk6 x1 x2 (x3 + nI 1) M ⟨rfl, rfl, rfl, rfl, trivial⟩
set_option maxHeartbeats 4000000 in
set_option maxRecDepth 100000 in
theorem w_X2_findFault_44 {l : Launch} {G : GL} {ad : Nat → Nat} {MM : Mem} {X : CT} (hX : Cx l { frames := 2, cells := 0, slots := 0, locals := 40 } cX2_findFault RX2 5 (some .int) G ad X) {k6 : Int32 → Int32 → Int32 → Mem → Option Rv} (hk6 : ∀ (x1 : Int32) (x2 : Int32) (x3 : Int32) (M : Mem) {L : List (Option Value)}, lsub [some (.ref (ad 22)), some (.int x1), some (.int x2), some (.int x3), none] L → KF l { frames := 2, cells := 0, slots := 0, locals := 40 } 5 G ad (EC G ad MM) (QP PostI G ad (EC G ad MM)) X (k6 x1 x2 x3 M) L 6 [] M) : ∀ (x1 : Int32) (x2 : Int32) (x3 : Int32) (x4 : Int32) (M : Mem) {L : List (Option Value)}, lsub [some (.ref (ad 22)), some (.int x1), some (.int x2), some (.int x3), some (.int x4)] L → KF l { frames := 2, cells := 0, slots := 0, locals := 40 } 5 G ad (EC G ad MM) (QP PostI G ad (EC G ad MM)) X (f_X2_findFault_44 k6 x1 x2 x3 x4 M) L 44 [] M := by
  intro x1 x2 x3 x4 M L hL
  unfold f_X2_findFault_44
  refine KF.locals (lsub_le hL) ?_
  refine k_iload hX rfl dX2_findFault_44 ?_
  refine k_callSI (vs := [.int x4]) hX (fun _ h9 => m_X2_isValue hX.2.2.2.2.2.2.1  h9) ml_X2_34 ⟨Nat.le_of_ble_eq_true rfl, Nat.le_of_ble_eq_true rfl⟩ rfl rfl (Nat.le_of_ble_eq_true rfl) dX2_findFault_46 (fun q1 => ?_)
  refine k_if_eq (tgt := 57) hX dX2_findFault_49 (by decide) (fun b2 => ?_) (fun b2 => ?_)
  · refine k_iload hX rfl dX2_findFault_57 ?_
    refine k_callSI (vs := [.int x4]) hX (fun _ h9 => m_X2_isInFront hX.2.2.2.2.2.2.1  h9) ml_X2_38 ⟨Nat.le_of_ble_eq_true rfl, Nat.le_of_ble_eq_true rfl⟩ rfl rfl (Nat.le_of_ble_eq_true rfl) dX2_findFault_59 (fun q3 => ?_)
    refine k_if_ne (tgt := 99) hX dX2_findFault_62 (by decide) (fun b4 => ?_) (fun b4 => ?_)
    · exact w_X2_findFault_99 hX hk6 x1 x2 x3 q3.2 ⟨rfl, rfl, rfl, rfl, trivial⟩
    refine k_iload_n hX (i := 3) rfl rfl dX2_findFault_65 ?_
    exact k_iret hX dX2_findFault_66
  refine k_iconst (v := (nI 0)) hX rfl dX2_findFault_52 ?_
  refine k_istore_n (L' := [some (.ref (ad 22)), some (.int (nI 0)), some (.int x2), some (.int x3), some (.int x4)]) hX (i := 1) rfl (by decide) rfl dX2_findFault_53 ?_
  refine k_goto (tgt := 99) hX dX2_findFault_54 (by decide) ?_
  exact w_X2_findFault_99 hX hk6 (nI 0) x2 x3 q1.2 ⟨rfl, rfl, rfl, rfl, trivial⟩
set_option maxHeartbeats 4000000 in
set_option maxRecDepth 100000 in
theorem w_X2_findFault_84 {l : Launch} {G : GL} {ad : Nat → Nat} {MM : Mem} {X : CT} (hX : Cx l { frames := 2, cells := 0, slots := 0, locals := 40 } cX2_findFault RX2 5 (some .int) G ad X) {k6 : Int32 → Int32 → Int32 → Mem → Option Rv} (hk6 : ∀ (x1 : Int32) (x2 : Int32) (x3 : Int32) (M : Mem) {L : List (Option Value)}, lsub [some (.ref (ad 22)), some (.int x1), some (.int x2), some (.int x3), none] L → KF l { frames := 2, cells := 0, slots := 0, locals := 40 } 5 G ad (EC G ad MM) (QP PostI G ad (EC G ad MM)) X (k6 x1 x2 x3 M) L 6 [] M) : ∀ (x2 : Int32) (x3 : Int32) (x4 : Int32) (M : Mem) {L : List (Option Value)}, lsub [some (.ref (ad 22)), none, some (.int x2), some (.int x3), some (.int x4)] L → KF l { frames := 2, cells := 0, slots := 0, locals := 40 } 5 G ad (EC G ad MM) (QP PostI G ad (EC G ad MM)) X (f_X2_findFault_84 k6 x2 x3 x4 M) L 84 [] M := by
  intro x2 x3 x4 M L hL
  unfold f_X2_findFault_84
  refine KF.locals (lsub_le hL) ?_
  refine k_iload hX rfl dX2_findFault_84 ?_
  refine k_callSI (vs := [.int x4]) hX (fun _ h9 => m_X2_isBetween hX.2.2.2.2.2.2.1  h9) ml_X2_41 ⟨Nat.le_of_ble_eq_true rfl, Nat.le_of_ble_eq_true rfl⟩ rfl rfl (Nat.le_of_ble_eq_true rfl) dX2_findFault_86 (fun q1 => ?_)
  refine k_if_eq (tgt := 97) hX dX2_findFault_89 (by decide) (fun b2 => ?_) (fun b2 => ?_)
  · refine k_iload_n hX (i := 3) rfl rfl dX2_findFault_97 ?_
    exact k_iret hX dX2_findFault_98
  refine k_iconst (v := (nI 1)) hX rfl dX2_findFault_92 ?_
  refine k_istore_n (L' := [some (.ref (ad 22)), some (.int (nI 1)), some (.int x2), some (.int x3), some (.int x4)]) hX (i := 1) rfl (by decide) rfl dX2_findFault_93 ?_
  refine k_goto (tgt := 99) hX dX2_findFault_94 (by decide) ?_
  exact w_X2_findFault_99 hX hk6 (nI 1) x2 x3 q1.2 ⟨rfl, rfl, rfl, rfl, trivial⟩
set_option maxHeartbeats 4000000 in
set_option maxRecDepth 100000 in
theorem w_X2_findFault_121 {l : Launch} {G : GL} {ad : Nat → Nat} {MM : Mem} {X : CT} (hX : Cx l { frames := 2, cells := 0, slots := 0, locals := 40 } cX2_findFault RX2 5 (some .int) G ad X) : ∀ (s0 : Int32) (M : Mem) {L : List (Option Value)}, lsub [none, none, none, none, none] L → KF l { frames := 2, cells := 0, slots := 0, locals := 40 } 5 G ad (EC G ad MM) (QP PostI G ad (EC G ad MM)) X (f_X2_findFault_121 s0 M) L 121 [.int s0] M := by
  intro s0 M L hL
  unfold f_X2_findFault_121
  refine KF.locals (lsub_le hL) ?_
  exact k_iret hX dX2_findFault_121
set_option maxHeartbeats 4000000 in
set_option maxRecDepth 100000 in
theorem w_X2_findFault_113 {l : Launch} {G : GL} {ad : Nat → Nat} {MM : Mem} {X : CT} (hX : Cx l { frames := 2, cells := 0, slots := 0, locals := 40 } cX2_findFault RX2 5 (some .int) G ad X) : ∀ (M : Mem) {L : List (Option Value)}, lsub [some (.ref (ad 22)), none, none, none, none] L → KF l { frames := 2, cells := 0, slots := 0, locals := 40 } 5 G ad (EC G ad MM) (QP PostI G ad (EC G ad MM)) X (f_X2_findFault_113 M) L 113 [] M := by
  intro M L hL
  unfold f_X2_findFault_113
  refine KF.locals (lsub_le hL) ?_
  refine k_aload_n hX (i := 0) rfl rfl dX2_findFault_113 ?_
  refine k_get hX io_22 fl_X2_30 rfl dX2_findFault_114 ?_
  refine k_goto (tgt := 121) hX dX2_findFault_117 (by decide) ?_
  exact w_X2_findFault_121 hX (M 22 5) M trivial
set_option maxHeartbeats 4000000 in
set_option maxRecDepth 100000 in
theorem w_X2_findFault_6 {l : Launch} {G : GL} {ad : Nat → Nat} {MM : Mem} {X : CT} (hX : Cx l { frames := 2, cells := 0, slots := 0, locals := 40 } cX2_findFault RX2 5 (some .int) G ad X) : ∀ (n : Nat), ∀ (x1 : Int32) (x2 : Int32) (x3 : Int32) (M : Mem) {L : List (Option Value)}, lsub [some (.ref (ad 22)), some (.int x1), some (.int x2), some (.int x3), none] L → KF l { frames := 2, cells := 0, slots := 0, locals := 40 } 5 G ad (EC G ad MM) (QP PostI G ad (EC G ad MM)) X (f_X2_findFault_6 n x1 x2 x3 M) L 6 [] M := by
  intro n
  induction n with
  | zero =>
    intro x1 x2 x3 M L hL
    exact KF.none'
  | succ n ih =>
    intro x1 x2 x3 M L hL
    rw [f_X2_findFault_6]
    refine KF.locals (lsub_le hL) ?_
    refine k_iload_n hX (i := 3) rfl rfl dX2_findFault_6 ?_
    refine k_aload_n hX (i := 0) rfl rfl dX2_findFault_7 ?_
    refine k_get hX io_22 fl_X2_30 rfl dX2_findFault_8 ?_
    refine k_icmp_ge (tgt := 105) hX dX2_findFault_11 (by decide) (fun b1 => ?_) (fun b1 => ?_)
    · refine k_iload_n hX (i := 1) rfl rfl dX2_findFault_105 ?_
      refine k_if_ne (tgt := 113) hX dX2_findFault_106 (by decide) (fun b2 => ?_) (fun b2 => ?_)
      · exact w_X2_findFault_113 hX M ⟨rfl, trivial⟩
      refine k_iload_n hX (i := 2) rfl rfl dX2_findFault_109 ?_
      refine k_if_le (tgt := 120) hX dX2_findFault_110 (by decide) (fun b3 => ?_) (fun b3 => ?_)
      · refine k_iconst (v := (-1)) hX rfl dX2_findFault_120 ?_
        exact w_X2_findFault_121 hX (-1) M trivial
      exact w_X2_findFault_113 hX M ⟨rfl, trivial⟩
    refine k_aload_n hX (i := 0) rfl rfl dX2_findFault_14 ?_
    refine k_get hX io_22 fl_X2_9 rfl dX2_findFault_15 ?_
    refine k_iload_n hX (i := 3) rfl rfl dX2_findFault_18 ?_
    refine k_cald hX ia_23 dX2_findFault_19 (fun v4 => ?_)
    refine k_istore (L' := [some (.ref (ad 22)), some (.int x1), some (.int x2), some (.int x3), some (.int v4)]) hX (by decide) rfl dX2_findFault_20 ?_
    refine k_iload_n hX (i := 1) rfl rfl dX2_findFault_22 ?_
    refine k_if_eq (tgt := 67) hX dX2_findFault_23 (by decide) (fun b5 => ?_) (fun b5 => ?_)
    · refine k_iload hX rfl dX2_findFault_67 ?_
      refine k_bipush (v := (nI 41)) hX rfl dX2_findFault_69 ?_
      refine k_icmp_ne (tgt := 84) hX dX2_findFault_71 (by decide) (fun b6 => ?_) (fun b6 => ?_)
      · exact w_X2_findFault_84 hX ih x2 x3 v4 M ⟨rfl, rfl, rfl, rfl, trivial⟩
      refine k_iload_n hX (i := 2) rfl rfl dX2_findFault_74 ?_
      refine k_if_le (tgt := 84) hX dX2_findFault_75 (by decide) (fun b7 => ?_) (fun b7 => ?_)
      · exact w_X2_findFault_84 hX ih x2 x3 v4 M ⟨rfl, rfl, rfl, rfl, trivial⟩
      refine k_iinc (v := x2 - nI 1) (L' := [some (.ref (ad 22)), some (.int x1), some (.int (x2 - nI 1)), some (.int x3), some (.int v4)]) hX (i := 2) rfl (iinc_neg _ _ rfl) (by decide) rfl dX2_findFault_78 ?_
      refine k_goto (tgt := 99) hX dX2_findFault_81 (by decide) ?_
      exact w_X2_findFault_99 hX ih x1 (x2 - nI 1) x3 M ⟨rfl, rfl, rfl, rfl, trivial⟩
    refine k_iload hX rfl dX2_findFault_26 ?_
    refine k_bipush (v := (nI 40)) hX rfl dX2_findFault_28 ?_
    refine k_icmp_ne (tgt := 44) hX dX2_findFault_30 (by decide) (fun b8 => ?_) (fun b8 => ?_)
    · exact w_X2_findFault_44 hX ih x1 x2 x3 v4 M ⟨rfl, rfl, rfl, rfl, rfl, trivial⟩
    refine k_iload_n hX (i := 2) rfl rfl dX2_findFault_33 ?_
    refine k_iconst (v := (nI 4)) hX rfl dX2_findFault_34 ?_
    refine k_icmp_ge (tgt := 44) hX dX2_findFault_35 (by decide) (fun b9 => ?_) (fun b9 => ?_)
    · exact w_X2_findFault_44 hX ih x1 x2 x3 v4 M ⟨rfl, rfl, rfl, rfl, rfl, trivial⟩
    refine k_iinc (v := x2 + nI 1) (L' := [some (.ref (ad 22)), some (.int x1), some (.int (x2 + nI 1)), some (.int x3), some (.int v4)]) hX (i := 2) rfl rfl (by decide) rfl dX2_findFault_38 ?_
    refine k_goto (tgt := 99) hX dX2_findFault_41 (by decide) ?_
    exact w_X2_findFault_99 hX ih x1 (x2 + nI 1) x3 M ⟨rfl, rfl, rfl, rfl, trivial⟩
set_option maxHeartbeats 4000000 in
set_option maxRecDepth 100000 in
theorem w_X2_findFault {l : Launch} {G : GL} {ad : Nat → Nat} {MM : Mem} {X : CT} (hX : Cx l { frames := 2, cells := 0, slots := 0, locals := 40 } cX2_findFault RX2 5 (some .int) G ad X) {M : Mem} : KF l { frames := 2, cells := 0, slots := 0, locals := 40 } 5 G ad (EC G ad MM) (QP PostI G ad (EC G ad MM)) X (f_X2_findFault M) [some (.ref (ad 22)), none, none, none, none] 0 [] M := by
  unfold f_X2_findFault
  refine k_iconst (v := (nI 1)) hX rfl dX2_findFault_0 ?_
  refine k_istore_n (L' := [some (.ref (ad 22)), some (.int (nI 1)), none, none, none]) hX (i := 1) rfl (by decide) rfl dX2_findFault_1 ?_
  refine k_iconst (v := (nI 0)) hX rfl dX2_findFault_2 ?_
  refine k_istore_n (L' := [some (.ref (ad 22)), some (.int (nI 1)), some (.int (nI 0)), none, none]) hX (i := 2) rfl (by decide) rfl dX2_findFault_3 ?_
  refine k_iconst (v := (nI 0)) hX rfl dX2_findFault_4 ?_
  refine k_istore_n (L' := [some (.ref (ad 22)), some (.int (nI 1)), some (.int (nI 0)), some (.int (nI 0)), none]) hX (i := 3) rfl (by decide) rfl dX2_findFault_5 ?_
  exact w_X2_findFault_6 hX fuelN (nI 1) (nI 0) (nI 0) M ⟨rfl, rfl, rfl, rfl, trivial⟩
set_option maxRecDepth 100000 in
theorem m_X2_findFault {l : Launch} {G : GL} {ad : Nat → Nat} {MM : Mem} (hAd : AdOK G ad) {M : Mem} {r : Rv} (h : f_X2_findFault M = some r) : Ct PostI l G ad (EC G ad MM) yX2_findFault cX2_findFault 5 (some .int) 2 40 [.ref (ad 22)] M r := ct_of' hAd (by decide +kernel) (List.forall_mem_cons.mpr ⟨rfl, (fun _ h => absurd h List.not_mem_nil)⟩) (Nat.le_of_ble_eq_true rfl) (L := [some (.ref (ad 22)), none, none, none, none]) rfl (fun _ hX => w_X2_findFault hX) h
set_option maxHeartbeats 4000000 in
set_option maxRecDepth 100000 in
theorem w_X2_applyInFront_173 {l : Launch} {G : GL} {ad : Nat → Nat} {MM : Mem} {X : CT} (hX : Cx l { frames := 5, cells := 0, slots := 0, locals := 128 } cX2_applyInFront RX2 3 none G ad X) {k0 : Mem → Option Rv} (hk0 : ∀ (M : Mem) {L : List (Option Value)}, lsub [some (.ref (ad 22)), none, none] L → KF l { frames := 5, cells := 0, slots := 0, locals := 128 } 3 G ad (EC G ad MM) (QP PostV G ad (EC G ad MM)) X (k0 M) L 0 [] M) : ∀ (x2 : Int32) (M : Mem) {L : List (Option Value)}, lsub [some (.ref (ad 22)), none, some (.int x2)] L → KF l { frames := 5, cells := 0, slots := 0, locals := 128 } 3 G ad (EC G ad MM) (QP PostV G ad (EC G ad MM)) X (f_X2_applyInFront_173 k0 x2 M) L 173 [] M := by
  intro x2 M L hL
  unfold f_X2_applyInFront_173
  refine KF.locals (lsub_le hL) ?_
  refine k_aload_n hX (i := 0) rfl rfl dX2_applyInFront_173 ?_
  refine k_get hX io_22 fl_X2_15 rfl dX2_applyInFront_174 ?_
  refine k_aload_n hX (i := 0) rfl rfl dX2_applyInFront_177 ?_
  refine k_get hX io_22 fl_X2_44 rfl dX2_applyInFront_178 ?_
  refine k_iconst (v := (nI 1)) hX rfl dX2_applyInFront_181 ?_
  refine k_isub hX dX2_applyInFront_182 ?_
  refine k_iload_n hX (i := 2) rfl rfl dX2_applyInFront_183 ?_
  refine k_ast hX locC ia_24 dX2_applyInFront_184 (fun M1 => ?_)
  refine k_goto (tgt := 0) hX dX2_applyInFront_185 (by decide) ?_
  exact hk0 M1 ⟨rfl, trivial⟩
set_option maxHeartbeats 4000000 in
set_option maxRecDepth 100000 in
theorem w_X2_applyInFront_188 {l : Launch} {G : GL} {ad : Nat → Nat} {MM : Mem} {X : CT} (hX : Cx l { frames := 5, cells := 0, slots := 0, locals := 128 } cX2_applyInFront RX2 3 none G ad X) : ∀ (M : Mem) {L : List (Option Value)}, lsub [none, none, none] L → KF l { frames := 5, cells := 0, slots := 0, locals := 128 } 3 G ad (EC G ad MM) (QP PostV G ad (EC G ad MM)) X (f_X2_applyInFront_188 M) L 188 [] M := by
  intro M L hL
  unfold f_X2_applyInFront_188
  refine KF.locals (lsub_le hL) ?_
  exact k_vret hX dX2_applyInFront_188
set_option maxHeartbeats 4000000 in
set_option maxRecDepth 100000 in
theorem w_X2_applyInFront_0 {l : Launch} {G : GL} {ad : Nat → Nat} {MM : Mem} {X : CT} (hX : Cx l { frames := 5, cells := 0, slots := 0, locals := 128 } cX2_applyInFront RX2 3 none G ad X) : ∀ (n : Nat), ∀ (M : Mem) {L : List (Option Value)}, lsub [some (.ref (ad 22)), none, none] L → KF l { frames := 5, cells := 0, slots := 0, locals := 128 } 3 G ad (EC G ad MM) (QP PostV G ad (EC G ad MM)) X (f_X2_applyInFront_0 n M) L 0 [] M := by
  intro n
  induction n with
  | zero =>
    intro M L hL
    exact KF.none'
  | succ n ih =>
    intro M L hL
    rw [f_X2_applyInFront_0]
    refine KF.locals (lsub_le hL) ?_
    refine k_aload_n hX (i := 0) rfl rfl dX2_applyInFront_0 ?_
    refine k_get hX io_22 fl_X2_47 rfl dX2_applyInFront_1 ?_
    refine k_if_le (tgt := 188) hX dX2_applyInFront_4 (by decide) (fun b1 => ?_) (fun b1 => ?_)
    · exact w_X2_applyInFront_188 hX M trivial
    refine k_aload_n hX (i := 0) rfl rfl dX2_applyInFront_7 ?_
    refine k_get hX io_22 fl_X2_44 rfl dX2_applyInFront_8 ?_
    refine k_if_le (tgt := 188) hX dX2_applyInFront_11 (by decide) (fun b2 => ?_) (fun b2 => ?_)
    · exact w_X2_applyInFront_188 hX M trivial
    refine k_aload_n hX (i := 0) rfl rfl dX2_applyInFront_14 ?_
    refine k_get hX io_22 fl_X2_19 rfl dX2_applyInFront_15 ?_
    refine k_aload_n hX (i := 0) rfl rfl dX2_applyInFront_18 ?_
    refine k_get hX io_22 fl_X2_47 rfl dX2_applyInFront_19 ?_
    refine k_iconst (v := (nI 1)) hX rfl dX2_applyInFront_22 ?_
    refine k_isub hX dX2_applyInFront_23 ?_
    refine k_cald hX ia_25 dX2_applyInFront_24 (fun v3 => ?_)
    refine k_callSI (vs := [.int v3]) hX (fun _ h9 => m_X2_isInFront hX.2.2.2.2.2.2.1  h9) ml_X2_38 ⟨Nat.le_of_ble_eq_true rfl, Nat.le_of_ble_eq_true rfl⟩ rfl rfl (Nat.le_of_ble_eq_true rfl) dX2_applyInFront_25 (fun q4 => ?_)
    refine k_if_eq (tgt := 188) hX dX2_applyInFront_28 (by decide) (fun b5 => ?_) (fun b5 => ?_)
    · exact w_X2_applyInFront_188 hX q4.2 trivial
    refine k_aload_n hX (i := 0) rfl rfl dX2_applyInFront_31 ?_
    refine k_dup hX rfl dX2_applyInFront_32 ?_
    refine k_get hX io_22 fl_X2_47 rfl dX2_applyInFront_33 ?_
    refine k_iconst (v := (nI 1)) hX rfl dX2_applyInFront_36 ?_
    refine k_isub hX dX2_applyInFront_37 ?_
    refine k_puti hX locC io_22 fp_X2_47 (Nat.le_of_ble_eq_true rfl) rfl dX2_applyInFront_38 (fun M6 => ?_)
    refine k_aload_n hX (i := 0) rfl rfl dX2_applyInFront_41 ?_
    refine k_get hX io_22 fl_X2_15 rfl dX2_applyInFront_42 ?_
    refine k_aload_n hX (i := 0) rfl rfl dX2_applyInFront_45 ?_
    refine k_get hX io_22 fl_X2_44 rfl dX2_applyInFront_46 ?_
    refine k_iconst (v := (nI 1)) hX rfl dX2_applyInFront_49 ?_
    refine k_isub hX dX2_applyInFront_50 ?_
    refine k_ald hX ia_24 dX2_applyInFront_51 (fun v7 => ?_)
    refine k_istore_n (L' := [some (.ref (ad 22)), some (.int v7), none]) hX (i := 1) rfl (by decide) rfl dX2_applyInFront_52 ?_
    refine k_aload_n hX (i := 0) rfl rfl dX2_applyInFront_53 ?_
    refine k_get hX io_22 fl_X2_19 rfl dX2_applyInFront_54 ?_
    refine k_aload_n hX (i := 0) rfl rfl dX2_applyInFront_57 ?_
    refine k_get hX io_22 fl_X2_47 rfl dX2_applyInFront_58 ?_
    refine k_cald hX ia_25 dX2_applyInFront_61 (fun v8 => ?_)
    refine KF.ite (fun b9 => ?_) (fun b9 => ?_)
    · refine k_look (off := 42) (tgt := 104) hX dX2_applyInFront_62 (by decide) (by rw [b9]; decide) (by decide) ?_
      refine k_aload_n hX (i := 0) rfl rfl dX2_applyInFront_104 ?_
      refine k_get hX io_22 fl_X2_26 rfl dX2_applyInFront_105 ?_
      refine k_iload_n hX (i := 1) rfl rfl dX2_applyInFront_108 ?_
      refine k_callVI (vs := [.int v7]) hX (fun _ h9 => m_X0_opposite hX.2.2.2.2.2.2.1  h9) io_13 rfl ml_X2_71 ⟨Nat.le_of_ble_eq_true rfl, Nat.le_of_ble_eq_true rfl⟩ rfl rfl (Nat.le_of_ble_eq_true rfl) dX2_applyInFront_109 (fun q10 => ?_)
      refine k_istore_n (L' := [some (.ref (ad 22)), some (.int v7), some (.int q10.1)]) hX (i := 2) rfl (by decide) rfl dX2_applyInFront_112 ?_
      refine k_goto (tgt := 173) hX dX2_applyInFront_113 (by decide) ?_
      exact w_X2_applyInFront_173 hX ih q10.1 q10.2 ⟨rfl, rfl, trivial⟩
    refine KF.ite (fun b11 => ?_) (fun b11 => ?_)
    · refine k_look (off := 84) (tgt := 146) hX dX2_applyInFront_62 (by decide) (by rw [b11]; decide) (by decide) ?_
      refine k_aload_n hX (i := 0) rfl rfl dX2_applyInFront_146 ?_
      refine k_get hX io_22 fl_X2_26 rfl dX2_applyInFront_147 ?_
      refine k_bipush (v := (nI 19)) hX rfl dX2_applyInFront_150 ?_
      refine k_iconst (v := (nI 0)) hX rfl dX2_applyInFront_152 ?_
      refine k_iload_n hX (i := 1) rfl rfl dX2_applyInFront_153 ?_
      refine k_callVI (vs := [.int (nI 19), .int (nI 0), .int v7]) hX (fun _ h9 => m_X0_make hX.2.2.2.2.2.2.1  h9) io_13 rfl ml_X2_77 ⟨Nat.le_of_ble_eq_true rfl, Nat.le_of_ble_eq_true rfl⟩ rfl rfl (Nat.le_of_ble_eq_true rfl) dX2_applyInFront_154 (fun q12 => ?_)
      refine k_istore_n (L' := [some (.ref (ad 22)), some (.int v7), some (.int q12.1)]) hX (i := 2) rfl (by decide) rfl dX2_applyInFront_157 ?_
      refine k_goto (tgt := 173) hX dX2_applyInFront_158 (by decide) ?_
      exact w_X2_applyInFront_173 hX ih q12.1 q12.2 ⟨rfl, rfl, trivial⟩
    refine KF.ite (fun b13 => ?_) (fun b13 => ?_)
    · refine k_look (off := 69) (tgt := 131) hX dX2_applyInFront_62 (by decide) (by rw [b13]; decide) (by decide) ?_
      refine k_aload_n hX (i := 0) rfl rfl dX2_applyInFront_131 ?_
      refine k_get hX io_22 fl_X2_26 rfl dX2_applyInFront_132 ?_
      refine k_bipush (v := (nI 17)) hX rfl dX2_applyInFront_135 ?_
      refine k_iload_n hX (i := 1) rfl rfl dX2_applyInFront_137 ?_
      refine k_iload_n hX (i := 1) rfl rfl dX2_applyInFront_138 ?_
      refine k_callVI (vs := [.int (nI 17), .int v7, .int v7]) hX (fun _ h9 => m_X0_make hX.2.2.2.2.2.2.1  h9) io_13 rfl ml_X2_77 ⟨Nat.le_of_ble_eq_true rfl, Nat.le_of_ble_eq_true rfl⟩ rfl rfl (Nat.le_of_ble_eq_true rfl) dX2_applyInFront_139 (fun q14 => ?_)
      refine k_istore_n (L' := [some (.ref (ad 22)), some (.int v7), some (.int q14.1)]) hX (i := 2) rfl (by decide) rfl dX2_applyInFront_142 ?_
      refine k_goto (tgt := 173) hX dX2_applyInFront_143 (by decide) ?_
      exact w_X2_applyInFront_173 hX ih q14.1 q14.2 ⟨rfl, rfl, trivial⟩
    refine KF.ite (fun b15 => ?_) (fun b15 => ?_)
    · refine k_look (off := 54) (tgt := 116) hX dX2_applyInFront_62 (by decide) (by rw [b15]; decide) (by decide) ?_
      refine k_aload_n hX (i := 0) rfl rfl dX2_applyInFront_116 ?_
      refine k_get hX io_22 fl_X2_26 rfl dX2_applyInFront_117 ?_
      refine k_bipush (v := (nI 16)) hX rfl dX2_applyInFront_120 ?_
      refine k_iload_n hX (i := 1) rfl rfl dX2_applyInFront_122 ?_
      refine k_iload_n hX (i := 1) rfl rfl dX2_applyInFront_123 ?_
      refine k_callVI (vs := [.int (nI 16), .int v7, .int v7]) hX (fun _ h9 => m_X0_make hX.2.2.2.2.2.2.1  h9) io_13 rfl ml_X2_77 ⟨Nat.le_of_ble_eq_true rfl, Nat.le_of_ble_eq_true rfl⟩ rfl rfl (Nat.le_of_ble_eq_true rfl) dX2_applyInFront_124 (fun q16 => ?_)
      refine k_istore_n (L' := [some (.ref (ad 22)), some (.int v7), some (.int q16.1)]) hX (i := 2) rfl (by decide) rfl dX2_applyInFront_127 ?_
      refine k_goto (tgt := 173) hX dX2_applyInFront_128 (by decide) ?_
      exact w_X2_applyInFront_173 hX ih q16.1 q16.2 ⟨rfl, rfl, trivial⟩
    refine k_look (off := 99) (tgt := 161) hX dX2_applyInFront_62 (by decide) (by show Op.lookupswitch.offset [(33, 42), (71, 84), (78, 69), (88, 54)] _ _ = _; rw [lv_osw b9 (by decide), lv_osw b11 (by decide), lv_osw b13 (by decide), lv_osw b15 (by decide)]; rfl) (by decide) ?_
    refine k_aload_n hX (i := 0) rfl rfl dX2_applyInFront_161 ?_
    refine k_get hX io_22 fl_X2_26 rfl dX2_applyInFront_162 ?_
    refine k_bipush (v := (nI 18)) hX rfl dX2_applyInFront_165 ?_
    refine k_iconst (v := (nI 1)) hX rfl dX2_applyInFront_167 ?_
    refine k_iload_n hX (i := 1) rfl rfl dX2_applyInFront_168 ?_
    refine k_callVI (vs := [.int (nI 18), .int (nI 1), .int v7]) hX (fun _ h9 => m_X0_make hX.2.2.2.2.2.2.1  h9) io_13 rfl ml_X2_77 ⟨Nat.le_of_ble_eq_true rfl, Nat.le_of_ble_eq_true rfl⟩ rfl rfl (Nat.le_of_ble_eq_true rfl) dX2_applyInFront_169 (fun q17 => ?_)
    refine k_istore_n (L' := [some (.ref (ad 22)), some (.int v7), some (.int q17.1)]) hX (i := 2) rfl (by decide) rfl dX2_applyInFront_172 ?_
    exact w_X2_applyInFront_173 hX ih q17.1 q17.2 ⟨rfl, rfl, trivial⟩
set_option maxHeartbeats 4000000 in
set_option maxRecDepth 100000 in
theorem w_X2_applyInFront {l : Launch} {G : GL} {ad : Nat → Nat} {MM : Mem} {X : CT} (hX : Cx l { frames := 5, cells := 0, slots := 0, locals := 128 } cX2_applyInFront RX2 3 none G ad X) {M : Mem} : KF l { frames := 5, cells := 0, slots := 0, locals := 128 } 3 G ad (EC G ad MM) (QP PostV G ad (EC G ad MM)) X (f_X2_applyInFront M) [some (.ref (ad 22)), none, none] 0 [] M := by
  unfold f_X2_applyInFront
  exact w_X2_applyInFront_0 hX fuelN M ⟨rfl, trivial⟩
set_option maxRecDepth 100000 in
theorem m_X2_applyInFront {l : Launch} {G : GL} {ad : Nat → Nat} {MM : Mem} (hAd : AdOK G ad) {M : Mem} {r : Rv} (h : f_X2_applyInFront M = some r) : Ct PostV l G ad (EC G ad MM) yX2_applyInFront cX2_applyInFront 3 none 5 128 [.ref (ad 22)] M r := ct_of' hAd (by decide +kernel) (List.forall_mem_cons.mpr ⟨rfl, (fun _ h => absurd h List.not_mem_nil)⟩) (Nat.le_of_ble_eq_true rfl) (L := [some (.ref (ad 22)), none, none]) rfl (fun _ hX => w_X2_applyInFront hX) h
set_option maxHeartbeats 4000000 in
set_option maxRecDepth 100000 in
theorem w_X2_await_29 {l : Launch} {G : GL} {ad : Nat → Nat} {MM : Mem} {X : CT} (hX : Cx l { frames := 0, cells := 0, slots := 0, locals := 0 } cX2_await RX2 2 none G ad X) : ∀ (M : Mem) {L : List (Option Value)}, lsub [none, none] L → KF l { frames := 0, cells := 0, slots := 0, locals := 0 } 2 G ad (EC G ad MM) (QP PostV G ad (EC G ad MM)) X (f_X2_await_29 M) L 29 [] M := by
  intro M L hL
  unfold f_X2_await_29
  refine KF.locals (lsub_le hL) ?_
  exact k_vret hX dX2_await_29
set_option maxHeartbeats 4000000 in
set_option maxRecDepth 100000 in
theorem w_X2_await {l : Launch} {G : GL} {ad : Nat → Nat} {MM : Mem} {X : CT} (hX : Cx l { frames := 0, cells := 0, slots := 0, locals := 0 } cX2_await RX2 2 none G ad X) {p1 : Int32} {M : Mem} : KF l { frames := 0, cells := 0, slots := 0, locals := 0 } 2 G ad (EC G ad MM) (QP PostV G ad (EC G ad MM)) X (f_X2_await p1 M) [some (.ref (ad 22)), some (.int p1)] 0 [] M := by
  unfold f_X2_await
  refine k_aload_n hX (i := 0) rfl rfl dX2_await_0 ?_
  refine k_get hX io_22 fl_X2_47 rfl dX2_await_1 ?_
  refine k_bipush (v := (nI 60)) hX rfl dX2_await_4 ?_
  refine k_icmp_ge (tgt := 29) hX dX2_await_6 (by decide) (fun b1 => ?_) (fun b1 => ?_)
  · exact w_X2_await_29 hX M trivial
  refine k_aload_n hX (i := 0) rfl rfl dX2_await_9 ?_
  refine k_get hX io_22 fl_X2_19 rfl dX2_await_10 ?_
  refine k_aload_n hX (i := 0) rfl rfl dX2_await_13 ?_
  refine k_get hX io_22 fl_X2_47 rfl dX2_await_14 ?_
  refine k_iload_n hX (i := 1) rfl rfl dX2_await_17 ?_
  refine k_cast hX locC ia_25 dX2_await_18 (fun M2 => ?_)
  refine k_aload_n hX (i := 0) rfl rfl dX2_await_19 ?_
  refine k_dup hX rfl dX2_await_20 ?_
  refine k_get hX io_22 fl_X2_47 rfl dX2_await_21 ?_
  refine k_iconst (v := (nI 1)) hX rfl dX2_await_24 ?_
  refine k_iadd hX dX2_await_25 ?_
  refine k_puti hX locC io_22 fp_X2_47 (Nat.le_of_ble_eq_true rfl) rfl dX2_await_26 (fun M3 => ?_)
  exact w_X2_await_29 hX M3 trivial
set_option maxRecDepth 100000 in
theorem m_X2_await {l : Launch} {G : GL} {ad : Nat → Nat} {MM : Mem} (hAd : AdOK G ad) {p1 : Int32} {M : Mem} {r : Rv} (h : f_X2_await p1 M = some r) : Ct PostV l G ad (EC G ad MM) yX2_await cX2_await 2 none 0 0 [.ref (ad 22), .int p1] M r := ct_of' hAd (by decide +kernel) (List.forall_mem_cons.mpr ⟨rfl, (List.forall_mem_cons.mpr ⟨rfl, (fun _ h => absurd h List.not_mem_nil)⟩)⟩) (Nat.le_of_ble_eq_true rfl) (L := [some (.ref (ad 22)), some (.int p1)]) rfl (fun _ hX => w_X2_await hX) h
set_option maxHeartbeats 4000000 in
set_option maxRecDepth 100000 in
theorem w_X2_combineDownTo_181 {l : Launch} {G : GL} {ad : Nat → Nat} {MM : Mem} {X : CT} (hX : Cx l { frames := 4, cells := 0, slots := 0, locals := 104 } cX2_combineDownTo RX2 5 none G ad X) {k0 : Int32 → Mem → Option Rv} (hk0 : ∀ (x1 : Int32) (M : Mem) {L : List (Option Value)}, lsub [some (.ref (ad 22)), some (.int x1), none, none, none] L → KF l { frames := 4, cells := 0, slots := 0, locals := 104 } 5 G ad (EC G ad MM) (QP PostV G ad (EC G ad MM)) X (k0 x1 M) L 0 [] M) : ∀ (x1 : Int32) (x4 : Int32) (M : Mem) {L : List (Option Value)}, lsub [some (.ref (ad 22)), some (.int x1), none, none, some (.int x4)] L → KF l { frames := 4, cells := 0, slots := 0, locals := 104 } 5 G ad (EC G ad MM) (QP PostV G ad (EC G ad MM)) X (f_X2_combineDownTo_181 k0 x1 x4 M) L 181 [] M := by
  intro x1 x4 M L hL
  unfold f_X2_combineDownTo_181
  refine KF.locals (lsub_le hL) ?_
  refine k_aload_n hX (i := 0) rfl rfl dX2_combineDownTo_181 ?_
  refine k_get hX io_22 fl_X2_15 rfl dX2_combineDownTo_182 ?_
  refine k_aload_n hX (i := 0) rfl rfl dX2_combineDownTo_185 ?_
  refine k_get hX io_22 fl_X2_44 rfl dX2_combineDownTo_186 ?_
  refine k_iconst (v := (nI 1)) hX rfl dX2_combineDownTo_189 ?_
  refine k_isub hX dX2_combineDownTo_190 ?_
  refine k_iload hX rfl dX2_combineDownTo_191 ?_
  refine k_ast hX locC ia_24 dX2_combineDownTo_193 (fun M1 => ?_)
  refine k_goto (tgt := 0) hX dX2_combineDownTo_194 (by decide) ?_
  exact hk0 x1 M1 ⟨rfl, rfl, trivial⟩
set_option maxHeartbeats 4000000 in
set_option maxRecDepth 100000 in
theorem w_X2_combineDownTo_197 {l : Launch} {G : GL} {ad : Nat → Nat} {MM : Mem} {X : CT} (hX : Cx l { frames := 4, cells := 0, slots := 0, locals := 104 } cX2_combineDownTo RX2 5 none G ad X) : ∀ (M : Mem) {L : List (Option Value)}, lsub [none, none, none, none, none] L → KF l { frames := 4, cells := 0, slots := 0, locals := 104 } 5 G ad (EC G ad MM) (QP PostV G ad (EC G ad MM)) X (f_X2_combineDownTo_197 M) L 197 [] M := by
  intro M L hL
  unfold f_X2_combineDownTo_197
  refine KF.locals (lsub_le hL) ?_
  exact k_vret hX dX2_combineDownTo_197
set_option maxHeartbeats 4000000 in
set_option maxRecDepth 100000 in
theorem w_X2_combineDownTo_0 {l : Launch} {G : GL} {ad : Nat → Nat} {MM : Mem} {X : CT} (hX : Cx l { frames := 4, cells := 0, slots := 0, locals := 104 } cX2_combineDownTo RX2 5 none G ad X) : ∀ (n : Nat), ∀ (x1 : Int32) (M : Mem) {L : List (Option Value)}, lsub [some (.ref (ad 22)), some (.int x1), none, none, none] L → KF l { frames := 4, cells := 0, slots := 0, locals := 104 } 5 G ad (EC G ad MM) (QP PostV G ad (EC G ad MM)) X (f_X2_combineDownTo_0 n x1 M) L 0 [] M := by
  intro n
  induction n with
  | zero =>
    intro x1 M L hL
    exact KF.none'
  | succ n ih =>
    intro x1 M L hL
    rw [f_X2_combineDownTo_0]
    refine KF.locals (lsub_le hL) ?_
    refine k_aload_n hX (i := 0) rfl rfl dX2_combineDownTo_0 ?_
    refine k_get hX io_22 fl_X2_47 rfl dX2_combineDownTo_1 ?_
    refine k_if_le (tgt := 197) hX dX2_combineDownTo_4 (by decide) (fun b1 => ?_) (fun b1 => ?_)
    · exact w_X2_combineDownTo_197 hX M trivial
    refine k_aload_n hX (i := 0) rfl rfl dX2_combineDownTo_7 ?_
    refine k_get hX io_22 fl_X2_44 rfl dX2_combineDownTo_8 ?_
    refine k_iconst (v := (nI 1)) hX rfl dX2_combineDownTo_11 ?_
    refine k_icmp_le (tgt := 197) hX dX2_combineDownTo_12 (by decide) (fun b2 => ?_) (fun b2 => ?_)
    · exact w_X2_combineDownTo_197 hX M trivial
    refine k_aload_n hX (i := 0) rfl rfl dX2_combineDownTo_15 ?_
    refine k_get hX io_22 fl_X2_19 rfl dX2_combineDownTo_16 ?_
    refine k_aload_n hX (i := 0) rfl rfl dX2_combineDownTo_19 ?_
    refine k_get hX io_22 fl_X2_47 rfl dX2_combineDownTo_20 ?_
    refine k_iconst (v := (nI 1)) hX rfl dX2_combineDownTo_23 ?_
    refine k_isub hX dX2_combineDownTo_24 ?_
    refine k_cald hX ia_25 dX2_combineDownTo_25 (fun v3 => ?_)
    refine k_callSI (vs := [.int v3]) hX (fun _ h9 => m_X2_binding hX.2.2.2.2.2.2.1  h9) ml_X2_81 ⟨Nat.le_of_ble_eq_true rfl, Nat.le_of_ble_eq_true rfl⟩ rfl rfl (Nat.le_of_ble_eq_true rfl) dX2_combineDownTo_26 (fun q4 => ?_)
    refine k_iload_n hX (i := 1) rfl rfl dX2_combineDownTo_29 ?_
    refine k_icmp_lt (tgt := 197) hX dX2_combineDownTo_30 (by decide) (fun b5 => ?_) (fun b5 => ?_)
    · exact w_X2_combineDownTo_197 hX q4.2 trivial
    refine k_aload_n hX (i := 0) rfl rfl dX2_combineDownTo_33 ?_
    refine k_dup hX rfl dX2_combineDownTo_34 ?_
    refine k_get hX io_22 fl_X2_47 rfl dX2_combineDownTo_35 ?_
    refine k_iconst (v := (nI 1)) hX rfl dX2_combineDownTo_38 ?_
    refine k_isub hX dX2_combineDownTo_39 ?_
    refine k_puti hX locC io_22 fp_X2_47 (Nat.le_of_ble_eq_true rfl) rfl dX2_combineDownTo_40 (fun M6 => ?_)
    refine k_aload_n hX (i := 0) rfl rfl dX2_combineDownTo_43 ?_
    refine k_dup hX rfl dX2_combineDownTo_44 ?_
    refine k_get hX io_22 fl_X2_44 rfl dX2_combineDownTo_45 ?_
    refine k_iconst (v := (nI 1)) hX rfl dX2_combineDownTo_48 ?_
    refine k_isub hX dX2_combineDownTo_49 ?_
    refine k_puti hX locC io_22 fp_X2_44 (Nat.le_of_ble_eq_true rfl) rfl dX2_combineDownTo_50 (fun M7 => ?_)
    refine k_aload_n hX (i := 0) rfl rfl dX2_combineDownTo_53 ?_
    refine k_get hX io_22 fl_X2_15 rfl dX2_combineDownTo_54 ?_
    refine k_aload_n hX (i := 0) rfl rfl dX2_combineDownTo_57 ?_
    refine k_get hX io_22 fl_X2_44 rfl dX2_combineDownTo_58 ?_
    refine k_iconst (v := (nI 1)) hX rfl dX2_combineDownTo_61 ?_
    refine k_isub hX dX2_combineDownTo_62 ?_
    refine k_ald hX ia_24 dX2_combineDownTo_63 (fun v8 => ?_)
    refine k_istore_n (L' := [some (.ref (ad 22)), some (.int x1), some (.int v8), none, none]) hX (i := 2) rfl (by decide) rfl dX2_combineDownTo_64 ?_
    refine k_aload_n hX (i := 0) rfl rfl dX2_combineDownTo_65 ?_
    refine k_get hX io_22 fl_X2_15 rfl dX2_combineDownTo_66 ?_
    refine k_aload_n hX (i := 0) rfl rfl dX2_combineDownTo_69 ?_
    refine k_get hX io_22 fl_X2_44 rfl dX2_combineDownTo_70 ?_
    refine k_ald hX ia_24 dX2_combineDownTo_73 (fun v9 => ?_)
    refine k_istore_n (L' := [some (.ref (ad 22)), some (.int x1), some (.int v8), some (.int v9), none]) hX (i := 3) rfl (by decide) rfl dX2_combineDownTo_74 ?_
    refine k_aload_n hX (i := 0) rfl rfl dX2_combineDownTo_75 ?_
    refine k_get hX io_22 fl_X2_19 rfl dX2_combineDownTo_76 ?_
    refine k_aload_n hX (i := 0) rfl rfl dX2_combineDownTo_79 ?_
    refine k_get hX io_22 fl_X2_47 rfl dX2_combineDownTo_80 ?_
    refine k_cald hX ia_25 dX2_combineDownTo_83 (fun v10 => ?_)
    refine KF.ite (fun b11 => ?_) (fun b11 => ?_)
    · refine k_look (off := 68) (tgt := 152) hX dX2_combineDownTo_84 (by decide) (by rw [b11]; decide) (by decide) ?_
      refine k_aload_n hX (i := 0) rfl rfl dX2_combineDownTo_152 ?_
      refine k_get hX io_22 fl_X2_26 rfl dX2_combineDownTo_153 ?_
      refine k_bipush (v := (nI 20)) hX rfl dX2_combineDownTo_156 ?_
      refine k_iload_n hX (i := 2) rfl rfl dX2_combineDownTo_158 ?_
      refine k_iload_n hX (i := 3) rfl rfl dX2_combineDownTo_159 ?_
      refine k_callVI (vs := [.int (nI 20), .int v8, .int v9]) hX (fun _ h9 => m_X0_two hX.2.2.2.2.2.2.1  h9) io_13 rfl ml_X2_84 ⟨Nat.le_of_ble_eq_true rfl, Nat.le_of_ble_eq_true rfl⟩ rfl rfl (Nat.le_of_ble_eq_true rfl) dX2_combineDownTo_160 (fun q12 => ?_)
      refine k_istore (L' := [some (.ref (ad 22)), some (.int x1), some (.int v8), some (.int v9), some (.int q12.1)]) hX (by decide) rfl dX2_combineDownTo_163 ?_
      refine k_goto (tgt := 181) hX dX2_combineDownTo_165 (by decide) ?_
      exact w_X2_combineDownTo_181 hX ih x1 q12.1 q12.2 ⟨rfl, rfl, rfl, trivial⟩
    refine KF.ite (fun b13 => ?_) (fun b13 => ?_)
    · refine k_look (off := 52) (tgt := 136) hX dX2_combineDownTo_84 (by decide) (by rw [b13]; decide) (by decide) ?_
      refine k_aload_n hX (i := 0) rfl rfl dX2_combineDownTo_136 ?_
      refine k_get hX io_22 fl_X2_26 rfl dX2_combineDownTo_137 ?_
      refine k_bipush (v := (nI 19)) hX rfl dX2_combineDownTo_140 ?_
      refine k_iload_n hX (i := 2) rfl rfl dX2_combineDownTo_142 ?_
      refine k_iload_n hX (i := 3) rfl rfl dX2_combineDownTo_143 ?_
      refine k_callVI (vs := [.int (nI 19), .int v8, .int v9]) hX (fun _ h9 => m_X0_make hX.2.2.2.2.2.2.1  h9) io_13 rfl ml_X2_77 ⟨Nat.le_of_ble_eq_true rfl, Nat.le_of_ble_eq_true rfl⟩ rfl rfl (Nat.le_of_ble_eq_true rfl) dX2_combineDownTo_144 (fun q14 => ?_)
      refine k_istore (L' := [some (.ref (ad 22)), some (.int x1), some (.int v8), some (.int v9), some (.int q14.1)]) hX (by decide) rfl dX2_combineDownTo_147 ?_
      refine k_goto (tgt := 181) hX dX2_combineDownTo_149 (by decide) ?_
      exact w_X2_combineDownTo_181 hX ih x1 q14.1 q14.2 ⟨rfl, rfl, rfl, trivial⟩
    refine KF.ite (fun b15 => ?_) (fun b15 => ?_)
    · refine k_look (off := 36) (tgt := 120) hX dX2_combineDownTo_84 (by decide) (by rw [b15]; decide) (by decide) ?_
      refine k_aload_n hX (i := 0) rfl rfl dX2_combineDownTo_120 ?_
      refine k_get hX io_22 fl_X2_26 rfl dX2_combineDownTo_121 ?_
      refine k_bipush (v := (nI 18)) hX rfl dX2_combineDownTo_124 ?_
      refine k_iload_n hX (i := 2) rfl rfl dX2_combineDownTo_126 ?_
      refine k_iload_n hX (i := 3) rfl rfl dX2_combineDownTo_127 ?_
      refine k_callVI (vs := [.int (nI 18), .int v8, .int v9]) hX (fun _ h9 => m_X0_make hX.2.2.2.2.2.2.1  h9) io_13 rfl ml_X2_77 ⟨Nat.le_of_ble_eq_true rfl, Nat.le_of_ble_eq_true rfl⟩ rfl rfl (Nat.le_of_ble_eq_true rfl) dX2_combineDownTo_128 (fun q16 => ?_)
      refine k_istore (L' := [some (.ref (ad 22)), some (.int x1), some (.int v8), some (.int v9), some (.int q16.1)]) hX (by decide) rfl dX2_combineDownTo_131 ?_
      refine k_goto (tgt := 181) hX dX2_combineDownTo_133 (by decide) ?_
      exact w_X2_combineDownTo_181 hX ih x1 q16.1 q16.2 ⟨rfl, rfl, rfl, trivial⟩
    refine k_look (off := 84) (tgt := 168) hX dX2_combineDownTo_84 (by decide) (by show Op.lookupswitch.offset [(38, 68), (82, 52), (85, 36)] _ _ = _; rw [lv_osw b11 (by decide), lv_osw b13 (by decide), lv_osw b15 (by decide)]; rfl) (by decide) ?_
    refine k_aload_n hX (i := 0) rfl rfl dX2_combineDownTo_168 ?_
    refine k_get hX io_22 fl_X2_26 rfl dX2_combineDownTo_169 ?_
    refine k_bipush (v := (nI 21)) hX rfl dX2_combineDownTo_172 ?_
    refine k_iload_n hX (i := 2) rfl rfl dX2_combineDownTo_174 ?_
    refine k_iload_n hX (i := 3) rfl rfl dX2_combineDownTo_175 ?_
    refine k_callVI (vs := [.int (nI 21), .int v8, .int v9]) hX (fun _ h9 => m_X0_two hX.2.2.2.2.2.2.1  h9) io_13 rfl ml_X2_84 ⟨Nat.le_of_ble_eq_true rfl, Nat.le_of_ble_eq_true rfl⟩ rfl rfl (Nat.le_of_ble_eq_true rfl) dX2_combineDownTo_176 (fun q17 => ?_)
    refine k_istore (L' := [some (.ref (ad 22)), some (.int x1), some (.int v8), some (.int v9), some (.int q17.1)]) hX (by decide) rfl dX2_combineDownTo_179 ?_
    exact w_X2_combineDownTo_181 hX ih x1 q17.1 q17.2 ⟨rfl, rfl, rfl, trivial⟩
set_option maxHeartbeats 4000000 in
set_option maxRecDepth 100000 in
theorem w_X2_combineDownTo {l : Launch} {G : GL} {ad : Nat → Nat} {MM : Mem} {X : CT} (hX : Cx l { frames := 4, cells := 0, slots := 0, locals := 104 } cX2_combineDownTo RX2 5 none G ad X) {p1 : Int32} {M : Mem} : KF l { frames := 4, cells := 0, slots := 0, locals := 104 } 5 G ad (EC G ad MM) (QP PostV G ad (EC G ad MM)) X (f_X2_combineDownTo p1 M) [some (.ref (ad 22)), some (.int p1), none, none, none] 0 [] M := by
  unfold f_X2_combineDownTo
  exact w_X2_combineDownTo_0 hX fuelN p1 M ⟨rfl, rfl, trivial⟩
set_option maxRecDepth 100000 in
theorem m_X2_combineDownTo {l : Launch} {G : GL} {ad : Nat → Nat} {MM : Mem} (hAd : AdOK G ad) {p1 : Int32} {M : Mem} {r : Rv} (h : f_X2_combineDownTo p1 M = some r) : Ct PostV l G ad (EC G ad MM) yX2_combineDownTo cX2_combineDownTo 5 none 4 104 [.ref (ad 22), .int p1] M r := ct_of' hAd (by decide +kernel) (List.forall_mem_cons.mpr ⟨rfl, (List.forall_mem_cons.mpr ⟨rfl, (fun _ h => absurd h List.not_mem_nil)⟩)⟩) (Nat.le_of_ble_eq_true rfl) (L := [some (.ref (ad 22)), some (.int p1), none, none, none]) rfl (fun _ hX => w_X2_combineDownTo hX) h
set_option maxHeartbeats 4000000 in
set_option maxRecDepth 100000 in
theorem w_X2_hold_29 {l : Launch} {G : GL} {ad : Nat → Nat} {MM : Mem} {X : CT} (hX : Cx l { frames := 0, cells := 0, slots := 0, locals := 0 } cX2_hold RX2 2 none G ad X) : ∀ (M : Mem) {L : List (Option Value)}, lsub [none, none] L → KF l { frames := 0, cells := 0, slots := 0, locals := 0 } 2 G ad (EC G ad MM) (QP PostV G ad (EC G ad MM)) X (f_X2_hold_29 M) L 29 [] M := by
  intro M L hL
  unfold f_X2_hold_29
  refine KF.locals (lsub_le hL) ?_
  exact k_vret hX dX2_hold_29
set_option maxHeartbeats 4000000 in
set_option maxRecDepth 100000 in
theorem w_X2_hold {l : Launch} {G : GL} {ad : Nat → Nat} {MM : Mem} {X : CT} (hX : Cx l { frames := 0, cells := 0, slots := 0, locals := 0 } cX2_hold RX2 2 none G ad X) {p1 : Int32} {M : Mem} : KF l { frames := 0, cells := 0, slots := 0, locals := 0 } 2 G ad (EC G ad MM) (QP PostV G ad (EC G ad MM)) X (f_X2_hold p1 M) [some (.ref (ad 22)), some (.int p1)] 0 [] M := by
  unfold f_X2_hold
  refine k_aload_n hX (i := 0) rfl rfl dX2_hold_0 ?_
  refine k_get hX io_22 fl_X2_44 rfl dX2_hold_1 ?_
  refine k_bipush (v := (nI 60)) hX rfl dX2_hold_4 ?_
  refine k_icmp_ge (tgt := 29) hX dX2_hold_6 (by decide) (fun b1 => ?_) (fun b1 => ?_)
  · exact w_X2_hold_29 hX M trivial
  refine k_aload_n hX (i := 0) rfl rfl dX2_hold_9 ?_
  refine k_get hX io_22 fl_X2_15 rfl dX2_hold_10 ?_
  refine k_aload_n hX (i := 0) rfl rfl dX2_hold_13 ?_
  refine k_get hX io_22 fl_X2_44 rfl dX2_hold_14 ?_
  refine k_iload_n hX (i := 1) rfl rfl dX2_hold_17 ?_
  refine k_ast hX locC ia_24 dX2_hold_18 (fun M2 => ?_)
  refine k_aload_n hX (i := 0) rfl rfl dX2_hold_19 ?_
  refine k_dup hX rfl dX2_hold_20 ?_
  refine k_get hX io_22 fl_X2_44 rfl dX2_hold_21 ?_
  refine k_iconst (v := (nI 1)) hX rfl dX2_hold_24 ?_
  refine k_iadd hX dX2_hold_25 ?_
  refine k_puti hX locC io_22 fp_X2_44 (Nat.le_of_ble_eq_true rfl) rfl dX2_hold_26 (fun M3 => ?_)
  exact w_X2_hold_29 hX M3 trivial
set_option maxRecDepth 100000 in
theorem m_X2_hold {l : Launch} {G : GL} {ad : Nat → Nat} {MM : Mem} (hAd : AdOK G ad) {p1 : Int32} {M : Mem} {r : Rv} (h : f_X2_hold p1 M = some r) : Ct PostV l G ad (EC G ad MM) yX2_hold cX2_hold 2 none 0 0 [.ref (ad 22), .int p1] M r := ct_of' hAd (by decide +kernel) (List.forall_mem_cons.mpr ⟨rfl, (List.forall_mem_cons.mpr ⟨rfl, (fun _ h => absurd h List.not_mem_nil)⟩)⟩) (Nat.le_of_ble_eq_true rfl) (L := [some (.ref (ad 22)), some (.int p1)]) rfl (fun _ hX => w_X2_hold hX) h
set_option maxHeartbeats 4000000 in
set_option maxRecDepth 100000 in
theorem w_X2_leastToCombine_25 {l : Launch} {G : GL} {ad : Nat → Nat} {MM : Mem} {X : CT} (hX : Cx l { frames := 1, cells := 0, slots := 0, locals := 20 } cX2_leastToCombine RX2 1 (some .int) G ad X) : ∀ (s0 : Int32) (M : Mem) {L : List (Option Value)}, lsub [none] L → KF l { frames := 1, cells := 0, slots := 0, locals := 20 } 1 G ad (EC G ad MM) (QP PostI G ad (EC G ad MM)) X (f_X2_leastToCombine_25 s0 M) L 25 [.int s0] M := by
  intro s0 M L hL
  unfold f_X2_leastToCombine_25
  refine KF.locals (lsub_le hL) ?_
  exact k_iret hX dX2_leastToCombine_25
set_option maxHeartbeats 4000000 in
set_option maxRecDepth 100000 in
theorem w_X2_leastToCombine_12 {l : Launch} {G : GL} {ad : Nat → Nat} {MM : Mem} {X : CT} (hX : Cx l { frames := 1, cells := 0, slots := 0, locals := 20 } cX2_leastToCombine RX2 1 (some .int) G ad X) : ∀ (x0 : Int32) (M : Mem) {L : List (Option Value)}, lsub [some (.int x0)] L → KF l { frames := 1, cells := 0, slots := 0, locals := 20 } 1 G ad (EC G ad MM) (QP PostI G ad (EC G ad MM)) X (f_X2_leastToCombine_12 x0 M) L 12 [] M := by
  intro x0 M L hL
  unfold f_X2_leastToCombine_12
  refine KF.locals (lsub_le hL) ?_
  refine k_iload_n hX (i := 0) rfl rfl dX2_leastToCombine_12 ?_
  refine k_callSI (vs := [.int x0]) hX (fun _ h9 => m_X2_binding hX.2.2.2.2.2.2.1  h9) ml_X2_81 ⟨Nat.le_of_ble_eq_true rfl, Nat.le_of_ble_eq_true rfl⟩ rfl rfl (Nat.le_of_ble_eq_true rfl) dX2_leastToCombine_13 (fun q1 => ?_)
  refine k_iconst (v := (nI 1)) hX rfl dX2_leastToCombine_16 ?_
  refine k_iadd hX dX2_leastToCombine_17 ?_
  refine k_goto (tgt := 25) hX dX2_leastToCombine_18 (by decide) ?_
  exact w_X2_leastToCombine_25 hX (q1.1 + (nI 1)) q1.2 trivial
set_option maxHeartbeats 4000000 in
set_option maxRecDepth 100000 in
theorem w_X2_leastToCombine {l : Launch} {G : GL} {ad : Nat → Nat} {MM : Mem} {X : CT} (hX : Cx l { frames := 1, cells := 0, slots := 0, locals := 20 } cX2_leastToCombine RX2 1 (some .int) G ad X) {p1 : Int32} {M : Mem} : KF l { frames := 1, cells := 0, slots := 0, locals := 20 } 1 G ad (EC G ad MM) (QP PostI G ad (EC G ad MM)) X (f_X2_leastToCombine p1 M) [some (.int p1)] 0 [] M := by
  unfold f_X2_leastToCombine
  refine k_iload_n hX (i := 0) rfl rfl dX2_leastToCombine_0 ?_
  refine k_bipush (v := (nI 85)) hX rfl dX2_leastToCombine_1 ?_
  refine k_icmp_eq (tgt := 12) hX dX2_leastToCombine_3 (by decide) (fun b1 => ?_) (fun b1 => ?_)
  · exact w_X2_leastToCombine_12 hX p1 M ⟨rfl, trivial⟩
  refine k_iload_n hX (i := 0) rfl rfl dX2_leastToCombine_6 ?_
  refine k_bipush (v := (nI 82)) hX rfl dX2_leastToCombine_7 ?_
  refine k_icmp_ne (tgt := 21) hX dX2_leastToCombine_9 (by decide) (fun b2 => ?_) (fun b2 => ?_)
  · refine k_iload_n hX (i := 0) rfl rfl dX2_leastToCombine_21 ?_
    refine k_callSI (vs := [.int p1]) hX (fun _ h9 => m_X2_binding hX.2.2.2.2.2.2.1  h9) ml_X2_81 ⟨Nat.le_of_ble_eq_true rfl, Nat.le_of_ble_eq_true rfl⟩ rfl rfl (Nat.le_of_ble_eq_true rfl) dX2_leastToCombine_22 (fun q3 => ?_)
    exact w_X2_leastToCombine_25 hX q3.1 q3.2 trivial
  exact w_X2_leastToCombine_12 hX p1 M ⟨rfl, trivial⟩
set_option maxRecDepth 100000 in
theorem m_X2_leastToCombine {l : Launch} {G : GL} {ad : Nat → Nat} {MM : Mem} (hAd : AdOK G ad) {p1 : Int32} {M : Mem} {r : Rv} (h : f_X2_leastToCombine p1 M = some r) : Ct PostI l G ad (EC G ad MM) yX2_leastToCombine cX2_leastToCombine 1 (some .int) 1 20 [.int p1] M r := ct_of' hAd (by decide +kernel) (List.forall_mem_cons.mpr ⟨rfl, (fun _ h => absurd h List.not_mem_nil)⟩) (Nat.le_of_ble_eq_true rfl) (L := [some (.int p1)]) rfl (fun _ hX => w_X2_leastToCombine hX) h
set_option maxHeartbeats 4000000 in
set_option maxRecDepth 100000 in
theorem w_X2_valueOf_26 {l : Launch} {G : GL} {ad : Nat → Nat} {MM : Mem} {X : CT} (hX : Cx l { frames := 0, cells := 0, slots := 0, locals := 0 } cX2_valueOf RX2 1 (some .int) G ad X) : ∀ (s0 : Int32) (M : Mem) {L : List (Option Value)}, lsub [none] L → KF l { frames := 0, cells := 0, slots := 0, locals := 0 } 1 G ad (EC G ad MM) (QP PostI G ad (EC G ad MM)) X (f_X2_valueOf_26 s0 M) L 26 [.int s0] M := by
  intro s0 M L hL
  unfold f_X2_valueOf_26
  refine KF.locals (lsub_le hL) ?_
  exact k_iret hX dX2_valueOf_26
set_option maxHeartbeats 4000000 in
set_option maxRecDepth 100000 in
theorem w_X2_valueOf {l : Launch} {G : GL} {ad : Nat → Nat} {MM : Mem} {X : CT} (hX : Cx l { frames := 0, cells := 0, slots := 0, locals := 0 } cX2_valueOf RX2 1 (some .int) G ad X) {p1 : Int32} {M : Mem} : KF l { frames := 0, cells := 0, slots := 0, locals := 0 } 1 G ad (EC G ad MM) (QP PostI G ad (EC G ad MM)) X (f_X2_valueOf p1 M) [some (.int p1)] 0 [] M := by
  unfold f_X2_valueOf
  refine k_iload_n hX (i := 0) rfl rfl dX2_valueOf_0 ?_
  refine k_bipush (v := (nI 48)) hX rfl dX2_valueOf_1 ?_
  refine k_icmp_ne (tgt := 10) hX dX2_valueOf_3 (by decide) (fun b1 => ?_) (fun b1 => ?_)
  · refine k_iload_n hX (i := 0) rfl rfl dX2_valueOf_10 ?_
    refine k_bipush (v := (nI 49)) hX rfl dX2_valueOf_11 ?_
    refine k_icmp_ne (tgt := 20) hX dX2_valueOf_13 (by decide) (fun b2 => ?_) (fun b2 => ?_)
    · refine k_iconst (v := (nI 4)) hX rfl dX2_valueOf_20 ?_
      refine k_iload_n hX (i := 0) rfl rfl dX2_valueOf_21 ?_
      refine k_bipush (v := (nI 97)) hX rfl dX2_valueOf_22 ?_
      refine k_isub hX dX2_valueOf_24 ?_
      refine k_iadd hX dX2_valueOf_25 ?_
      exact w_X2_valueOf_26 hX ((nI 4) + (p1 - (nI 97))) M trivial
    refine k_iconst (v := (nI 1)) hX rfl dX2_valueOf_16 ?_
    refine k_goto (tgt := 26) hX dX2_valueOf_17 (by decide) ?_
    exact w_X2_valueOf_26 hX (nI 1) M trivial
  refine k_iconst (v := (nI 0)) hX rfl dX2_valueOf_6 ?_
  refine k_goto (tgt := 26) hX dX2_valueOf_7 (by decide) ?_
  exact w_X2_valueOf_26 hX (nI 0) M trivial
set_option maxRecDepth 100000 in
theorem m_X2_valueOf {l : Launch} {G : GL} {ad : Nat → Nat} {MM : Mem} (hAd : AdOK G ad) {p1 : Int32} {M : Mem} {r : Rv} (h : f_X2_valueOf p1 M = some r) : Ct PostI l G ad (EC G ad MM) yX2_valueOf cX2_valueOf 1 (some .int) 0 0 [.int p1] M r := ct_of' hAd (by decide +kernel) (List.forall_mem_cons.mpr ⟨rfl, (fun _ h => absurd h List.not_mem_nil)⟩) (Nat.le_of_ble_eq_true rfl) (L := [some (.int p1)]) rfl (fun _ hX => w_X2_valueOf hX) h
set_option maxHeartbeats 4000000 in
set_option maxRecDepth 100000 in
theorem w_X2_read_108 {l : Launch} {G : GL} {ad : Nat → Nat} {MM : Mem} {X : CT} (hX : Cx l { frames := 6, cells := 0, slots := 0, locals := 150 } cX2_read RX2 3 (some .int) G ad X) {k12 : Int32 → Mem → Option Rv} (hk12 : ∀ (x1 : Int32) (M : Mem) {L : List (Option Value)}, lsub [some (.ref (ad 22)), some (.int x1), none] L → KF l { frames := 6, cells := 0, slots := 0, locals := 150 } 3 G ad (EC G ad MM) (QP PostI G ad (EC G ad MM)) X (k12 x1 M) L 12 [] M) : ∀ (x1 : Int32) (M : Mem) {L : List (Option Value)}, lsub [some (.ref (ad 22)), some (.int x1), none] L → KF l { frames := 6, cells := 0, slots := 0, locals := 150 } 3 G ad (EC G ad MM) (QP PostI G ad (EC G ad MM)) X (f_X2_read_108 k12 x1 M) L 108 [] M := by
  intro x1 M L hL
  unfold f_X2_read_108
  refine KF.locals (lsub_le hL) ?_
  refine k_iinc (v := x1 + nI 1) (L' := [some (.ref (ad 22)), some (.int (x1 + nI 1)), none]) hX (i := 1) rfl rfl (by decide) rfl dX2_read_108 ?_
  refine k_goto (tgt := 12) hX dX2_read_111 (by decide) ?_
  exact hk12 (x1 + nI 1) M ⟨rfl, rfl, trivial⟩
set_option maxHeartbeats 4000000 in
set_option maxRecDepth 100000 in
theorem w_X2_read_78 {l : Launch} {G : GL} {ad : Nat → Nat} {MM : Mem} {X : CT} (hX : Cx l { frames := 6, cells := 0, slots := 0, locals := 150 } cX2_read RX2 3 (some .int) G ad X) {k12 : Int32 → Mem → Option Rv} (hk12 : ∀ (x1 : Int32) (M : Mem) {L : List (Option Value)}, lsub [some (.ref (ad 22)), some (.int x1), none] L → KF l { frames := 6, cells := 0, slots := 0, locals := 150 } 3 G ad (EC G ad MM) (QP PostI G ad (EC G ad MM)) X (k12 x1 M) L 12 [] M) : ∀ (x1 : Int32) (s0 : Int32) (M : Mem) {L : List (Option Value)}, lsub [some (.ref (ad 22)), some (.int x1), none] L → KF l { frames := 6, cells := 0, slots := 0, locals := 150 } 3 G ad (EC G ad MM) (QP PostI G ad (EC G ad MM)) X (f_X2_read_78 k12 x1 s0 M) L 78 [.int s0, .ref (ad 22)] M := by
  intro x1 s0 M L hL
  unfold f_X2_read_78
  refine KF.locals (lsub_le hL) ?_
  refine k_puti hX locC io_22 fp_X2_47 (Nat.le_of_ble_eq_true rfl) rfl dX2_read_78 (fun M1 => ?_)
  refine k_aload_n hX (i := 0) rfl rfl dX2_read_81 ?_
  refine k_callVV (vs := []) hX (fun _ h9 => m_X2_applyInFront hX.2.2.2.2.2.2.1  h9) io_22 rfl ml_X2_58 ⟨Nat.le_of_ble_eq_true rfl, Nat.le_of_ble_eq_true rfl⟩ rfl rfl (Nat.le_of_ble_eq_true rfl) dX2_read_82 (fun q2 => ?_)
  refine k_goto (tgt := 108) hX dX2_read_85 (by decide) ?_
  exact w_X2_read_108 hX hk12 x1 q2.2 ⟨rfl, rfl, trivial⟩
set_option maxHeartbeats 4000000 in
set_option maxRecDepth 100000 in
theorem w_X2_read_103 {l : Launch} {G : GL} {ad : Nat → Nat} {MM : Mem} {X : CT} (hX : Cx l { frames := 6, cells := 0, slots := 0, locals := 150 } cX2_read RX2 3 (some .int) G ad X) {k12 : Int32 → Mem → Option Rv} (hk12 : ∀ (x1 : Int32) (M : Mem) {L : List (Option Value)}, lsub [some (.ref (ad 22)), some (.int x1), none] L → KF l { frames := 6, cells := 0, slots := 0, locals := 150 } 3 G ad (EC G ad MM) (QP PostI G ad (EC G ad MM)) X (k12 x1 M) L 12 [] M) : ∀ (x1 : Int32) (x2 : Int32) (M : Mem) {L : List (Option Value)}, lsub [some (.ref (ad 22)), some (.int x1), some (.int x2)] L → KF l { frames := 6, cells := 0, slots := 0, locals := 150 } 3 G ad (EC G ad MM) (QP PostI G ad (EC G ad MM)) X (f_X2_read_103 k12 x1 x2 M) L 103 [] M := by
  intro x1 x2 M L hL
  unfold f_X2_read_103
  refine KF.locals (lsub_le hL) ?_
  refine k_aload_n hX (i := 0) rfl rfl dX2_read_103 ?_
  refine k_iload_n hX (i := 2) rfl rfl dX2_read_104 ?_
  refine k_callVV (vs := [.int x2]) hX (fun _ h9 => m_X2_await hX.2.2.2.2.2.2.1  h9) io_22 rfl ml_X2_67 ⟨Nat.le_of_ble_eq_true rfl, Nat.le_of_ble_eq_true rfl⟩ rfl rfl (Nat.le_of_ble_eq_true rfl) dX2_read_105 (fun q1 => ?_)
  exact w_X2_read_108 hX hk12 x1 q1.2 ⟨rfl, rfl, trivial⟩
set_option maxHeartbeats 4000000 in
set_option maxRecDepth 100000 in
theorem w_X2_read_136 {l : Launch} {G : GL} {ad : Nat → Nat} {MM : Mem} {X : CT} (hX : Cx l { frames := 6, cells := 0, slots := 0, locals := 150 } cX2_read RX2 3 (some .int) G ad X) : ∀ (s0 : Int32) (M : Mem) {L : List (Option Value)}, lsub [none, none, none] L → KF l { frames := 6, cells := 0, slots := 0, locals := 150 } 3 G ad (EC G ad MM) (QP PostI G ad (EC G ad MM)) X (f_X2_read_136 s0 M) L 136 [.int s0] M := by
  intro s0 M L hL
  unfold f_X2_read_136
  refine KF.locals (lsub_le hL) ?_
  exact k_iret hX dX2_read_136
set_option maxHeartbeats 4000000 in
set_option maxRecDepth 100000 in
theorem w_X2_read_12 {l : Launch} {G : GL} {ad : Nat → Nat} {MM : Mem} {X : CT} (hX : Cx l { frames := 6, cells := 0, slots := 0, locals := 150 } cX2_read RX2 3 (some .int) G ad X) : ∀ (n : Nat), ∀ (x1 : Int32) (M : Mem) {L : List (Option Value)}, lsub [some (.ref (ad 22)), some (.int x1), none] L → KF l { frames := 6, cells := 0, slots := 0, locals := 150 } 3 G ad (EC G ad MM) (QP PostI G ad (EC G ad MM)) X (f_X2_read_12 n x1 M) L 12 [] M := by
  intro n
  induction n with
  | zero =>
    intro x1 M L hL
    exact KF.none'
  | succ n ih =>
    intro x1 M L hL
    rw [f_X2_read_12]
    refine KF.locals (lsub_le hL) ?_
    refine k_iload_n hX (i := 1) rfl rfl dX2_read_12 ?_
    refine k_aload_n hX (i := 0) rfl rfl dX2_read_13 ?_
    refine k_get hX io_22 fl_X2_30 rfl dX2_read_14 ?_
    refine k_icmp_ge (tgt := 114) hX dX2_read_17 (by decide) (fun b1 => ?_) (fun b1 => ?_)
    · refine k_aload_n hX (i := 0) rfl rfl dX2_read_114 ?_
      refine k_iconst (v := (nI 1)) hX rfl dX2_read_115 ?_
      refine k_callVV (vs := [.int (nI 1)]) hX (fun _ h9 => m_X2_combineDownTo hX.2.2.2.2.2.2.1  h9) io_22 rfl ml_X2_61 ⟨Nat.le_of_ble_eq_true rfl, Nat.le_of_ble_eq_true rfl⟩ rfl rfl (Nat.le_of_ble_eq_true rfl) dX2_read_116 (fun q2 => ?_)
      refine k_aload_n hX (i := 0) rfl rfl dX2_read_119 ?_
      refine k_get hX io_22 fl_X2_44 rfl dX2_read_120 ?_
      refine k_if_le (tgt := 135) hX dX2_read_123 (by decide) (fun b3 => ?_) (fun b3 => ?_)
      · refine k_iconst (v := (nI 0)) hX rfl dX2_read_135 ?_
        exact w_X2_read_136 hX (nI 0) q2.2 trivial
      refine k_aload_n hX (i := 0) rfl rfl dX2_read_126 ?_
      refine k_get hX io_22 fl_X2_15 rfl dX2_read_127 ?_
      refine k_iconst (v := (nI 0)) hX rfl dX2_read_130 ?_
      refine k_ald hX ia_24 dX2_read_131 (fun v4 => ?_)
      refine k_goto (tgt := 136) hX dX2_read_132 (by decide) ?_
      exact w_X2_read_136 hX v4 q2.2 trivial
    refine k_aload_n hX (i := 0) rfl rfl dX2_read_20 ?_
    refine k_get hX io_22 fl_X2_9 rfl dX2_read_21 ?_
    refine k_iload_n hX (i := 1) rfl rfl dX2_read_24 ?_
    refine k_cald hX ia_23 dX2_read_25 (fun v5 => ?_)
    refine k_istore_n (L' := [some (.ref (ad 22)), some (.int x1), some (.int v5)]) hX (i := 2) rfl (by decide) rfl dX2_read_26 ?_
    refine k_iload_n hX (i := 2) rfl rfl dX2_read_27 ?_
    refine k_callSI (vs := [.int v5]) hX (fun _ h9 => m_X2_isValue hX.2.2.2.2.2.2.1  h9) ml_X2_34 ⟨Nat.le_of_ble_eq_true rfl, Nat.le_of_ble_eq_true rfl⟩ rfl rfl (Nat.le_of_ble_eq_true rfl) dX2_read_28 (fun q6 => ?_)
    refine k_if_eq (tgt := 49) hX dX2_read_31 (by decide) (fun b7 => ?_) (fun b7 => ?_)
    · refine k_iload_n hX (i := 2) rfl rfl dX2_read_49 ?_
      refine k_bipush (v := (nI 41)) hX rfl dX2_read_50 ?_
      refine k_icmp_ne (tgt := 88) hX dX2_read_52 (by decide) (fun b8 => ?_) (fun b8 => ?_)
      · refine k_iload_n hX (i := 2) rfl rfl dX2_read_88 ?_
        refine k_callSI (vs := [.int v5]) hX (fun _ h9 => m_X2_isBetween hX.2.2.2.2.2.2.1  h9) ml_X2_41 ⟨Nat.le_of_ble_eq_true rfl, Nat.le_of_ble_eq_true rfl⟩ rfl rfl (Nat.le_of_ble_eq_true rfl) dX2_read_89 (fun q9 => ?_)
        refine k_if_eq (tgt := 103) hX dX2_read_92 (by decide) (fun b10 => ?_) (fun b10 => ?_)
        · exact w_X2_read_103 hX ih x1 v5 q9.2 ⟨rfl, rfl, rfl, trivial⟩
        refine k_aload_n hX (i := 0) rfl rfl dX2_read_95 ?_
        refine k_iload_n hX (i := 2) rfl rfl dX2_read_96 ?_
        refine k_callSI (vs := [.int v5]) hX (fun _ h9 => m_X2_leastToCombine hX.2.2.2.2.2.2.1  h9) ml_X2_64 ⟨Nat.le_of_ble_eq_true rfl, Nat.le_of_ble_eq_true rfl⟩ rfl rfl (Nat.le_of_ble_eq_true rfl) dX2_read_97 (fun q11 => ?_)
        refine k_callVV (vs := [.int q11.1]) hX (fun _ h9 => m_X2_combineDownTo hX.2.2.2.2.2.2.1  h9) io_22 rfl ml_X2_61 ⟨Nat.le_of_ble_eq_true rfl, Nat.le_of_ble_eq_true rfl⟩ rfl rfl (Nat.le_of_ble_eq_true rfl) dX2_read_100 (fun q12 => ?_)
        exact w_X2_read_103 hX ih x1 v5 q12.2 ⟨rfl, rfl, rfl, trivial⟩
      refine k_aload_n hX (i := 0) rfl rfl dX2_read_55 ?_
      refine k_iconst (v := (nI 1)) hX rfl dX2_read_56 ?_
      refine k_callVV (vs := [.int (nI 1)]) hX (fun _ h9 => m_X2_combineDownTo hX.2.2.2.2.2.2.1  h9) io_22 rfl ml_X2_61 ⟨Nat.le_of_ble_eq_true rfl, Nat.le_of_ble_eq_true rfl⟩ rfl rfl (Nat.le_of_ble_eq_true rfl) dX2_read_57 (fun q13 => ?_)
      refine k_aload_n hX (i := 0) rfl rfl dX2_read_60 ?_
      refine k_aload_n hX (i := 0) rfl rfl dX2_read_61 ?_
      refine k_get hX io_22 fl_X2_47 rfl dX2_read_62 ?_
      refine k_if_le (tgt := 77) hX dX2_read_65 (by decide) (fun b14 => ?_) (fun b14 => ?_)
      · refine k_iconst (v := (nI 0)) hX rfl dX2_read_77 ?_
        exact w_X2_read_78 hX ih x1 (nI 0) q13.2 ⟨rfl, rfl, trivial⟩
      refine k_aload_n hX (i := 0) rfl rfl dX2_read_68 ?_
      refine k_get hX io_22 fl_X2_47 rfl dX2_read_69 ?_
      refine k_iconst (v := (nI 1)) hX rfl dX2_read_72 ?_
      refine k_isub hX dX2_read_73 ?_
      refine k_goto (tgt := 78) hX dX2_read_74 (by decide) ?_
      exact w_X2_read_78 hX ih x1 ((q13.2 22 7) - (nI 1)) q13.2 ⟨rfl, rfl, trivial⟩
    refine k_aload_n hX (i := 0) rfl rfl dX2_read_34 ?_
    refine k_iload_n hX (i := 2) rfl rfl dX2_read_35 ?_
    refine k_callSI (vs := [.int v5]) hX (fun _ h9 => m_X2_valueOf hX.2.2.2.2.2.2.1  h9) ml_X2_50 ⟨Nat.le_of_ble_eq_true rfl, Nat.le_of_ble_eq_true rfl⟩ rfl rfl (Nat.le_of_ble_eq_true rfl) dX2_read_36 (fun q15 => ?_)
    refine k_callVV (vs := [.int q15.1]) hX (fun _ h9 => m_X2_hold hX.2.2.2.2.2.2.1  h9) io_22 rfl ml_X2_54 ⟨Nat.le_of_ble_eq_true rfl, Nat.le_of_ble_eq_true rfl⟩ rfl rfl (Nat.le_of_ble_eq_true rfl) dX2_read_39 (fun q16 => ?_)
    refine k_aload_n hX (i := 0) rfl rfl dX2_read_42 ?_
    refine k_callVV (vs := []) hX (fun _ h9 => m_X2_applyInFront hX.2.2.2.2.2.2.1  h9) io_22 rfl ml_X2_58 ⟨Nat.le_of_ble_eq_true rfl, Nat.le_of_ble_eq_true rfl⟩ rfl rfl (Nat.le_of_ble_eq_true rfl) dX2_read_43 (fun q17 => ?_)
    refine k_goto (tgt := 108) hX dX2_read_46 (by decide) ?_
    exact w_X2_read_108 hX ih x1 q17.2 ⟨rfl, rfl, trivial⟩
set_option maxHeartbeats 4000000 in
set_option maxRecDepth 100000 in
theorem w_X2_read {l : Launch} {G : GL} {ad : Nat → Nat} {MM : Mem} {X : CT} (hX : Cx l { frames := 6, cells := 0, slots := 0, locals := 150 } cX2_read RX2 3 (some .int) G ad X) {M : Mem} : KF l { frames := 6, cells := 0, slots := 0, locals := 150 } 3 G ad (EC G ad MM) (QP PostI G ad (EC G ad MM)) X (f_X2_read M) [some (.ref (ad 22)), none, none] 0 [] M := by
  unfold f_X2_read
  refine k_aload_n hX (i := 0) rfl rfl dX2_read_0 ?_
  refine k_iconst (v := (nI 0)) hX rfl dX2_read_1 ?_
  refine k_puti hX locC io_22 fp_X2_44 (Nat.le_of_ble_eq_true rfl) rfl dX2_read_2 (fun M1 => ?_)
  refine k_aload_n hX (i := 0) rfl rfl dX2_read_5 ?_
  refine k_iconst (v := (nI 0)) hX rfl dX2_read_6 ?_
  refine k_puti hX locC io_22 fp_X2_47 (Nat.le_of_ble_eq_true rfl) rfl dX2_read_7 (fun M2 => ?_)
  refine k_iconst (v := (nI 0)) hX rfl dX2_read_10 ?_
  refine k_istore_n (L' := [some (.ref (ad 22)), some (.int (nI 0)), none]) hX (i := 1) rfl (by decide) rfl dX2_read_11 ?_
  exact w_X2_read_12 hX fuelN (nI 0) M2 ⟨rfl, rfl, trivial⟩
set_option maxRecDepth 100000 in
theorem m_X2_read {l : Launch} {G : GL} {ad : Nat → Nat} {MM : Mem} (hAd : AdOK G ad) {M : Mem} {r : Rv} (h : f_X2_read M = some r) : Ct PostI l G ad (EC G ad MM) yX2_read cX2_read 3 (some .int) 6 150 [.ref (ad 22)] M r := ct_of' hAd (by decide +kernel) (List.forall_mem_cons.mpr ⟨rfl, (fun _ h => absurd h List.not_mem_nil)⟩) (Nat.le_of_ble_eq_true rfl) (L := [some (.ref (ad 22)), none, none]) rfl (fun _ hX => w_X2_read hX) h
set_option maxHeartbeats 4000000 in
set_option maxRecDepth 100000 in
theorem w_X3_load_85 {l : Launch} {G : GL} {ad : Nat → Nat} {MM : Mem} {X : CT} (hX : Cx l { frames := 2, cells := 0, slots := 0, locals := 56 } cX3_load RX3 8 (some .int) G ad X) : ∀ (M : Mem) {L : List (Option Value)}, lsub [none, none, none, none, none, none, none, none] L → KF l { frames := 2, cells := 0, slots := 0, locals := 56 } 8 G ad (EC G ad MM) (QP PostI G ad (EC G ad MM)) X (f_X3_load_85 M) L 85 [] M := by
  intro M L hL
  unfold f_X3_load_85
  refine KF.locals (lsub_le hL) ?_
  refine k_iconst (v := (nI 0)) hX rfl dX3_load_85 ?_
  exact k_iret hX dX3_load_86
set_option maxHeartbeats 4000000 in
set_option maxRecDepth 100000 in
theorem w_X3_load_68 {l : Launch} {G : GL} {ad : Nat → Nat} {MM : Mem} {X : CT} (hX : Cx l { frames := 2, cells := 0, slots := 0, locals := 56 } cX3_load RX3 8 (some .int) G ad X) {k13 : Nat → Int32 → Int32 → Int32 → Mem → Option Rv} (hk13 : ∀ (x1 : Nat) (x2 : Int32) (x3 : Int32) (x4 : Int32) (hx1 : isWb x1 = true) (M : Mem) {L : List (Option Value)}, lsub [some (.ref (ad 17)), some (.ref (ad x1)), some (.int x2), some (.int x3), some (.int x4), none, none, none] L → KF l { frames := 2, cells := 0, slots := 0, locals := 56 } 8 G ad (EC G ad MM) (QP PostI G ad (EC G ad MM)) X (k13 x1 x2 x3 x4 M) L 13 [] M) : ∀ (x1 : Nat) (x2 : Int32) (x3 : Int32) (x4 : Int32) (x6 : Int32) (x7 : Int32) (hx1 : isWb x1 = true) (M : Mem) {L : List (Option Value)}, lsub [some (.ref (ad 17)), some (.ref (ad x1)), some (.int x2), some (.int x3), some (.int x4), none, some (.int x6), some (.int x7)] L → KF l { frames := 2, cells := 0, slots := 0, locals := 56 } 8 G ad (EC G ad MM) (QP PostI G ad (EC G ad MM)) X (f_X3_load_68 k13 x1 x2 x3 x4 x6 x7 M) L 68 [] M := by
  intro x1 x2 x3 x4 x6 x7 hx1 M L hL
  unfold f_X3_load_68
  refine KF.locals (lsub_le hL) ?_
  refine k_iload_n hX (i := 3) rfl rfl dX3_load_68 ?_
  refine k_iload hX rfl dX3_load_69 ?_
  refine k_iconst (v := (nI 1)) hX rfl dX3_load_71 ?_
  refine k_isub hX dX3_load_72 ?_
  refine k_iadd hX dX3_load_73 ?_
  refine k_istore_n (L' := [some (.ref (ad 17)), some (.ref (ad x1)), some (.int x2), some (.int (x3 + (x6 - (nI 1)))), some (.int x4), none, some (.int x6), some (.int x7)]) hX (i := 3) rfl (by decide) rfl dX3_load_74 ?_
  refine k_iload_n hX (i := 3) rfl rfl dX3_load_75 ?_
  refine k_if_lt (tgt := 85) hX dX3_load_76 (by decide) (fun b1 => ?_) (fun b1 => ?_)
  · exact w_X3_load_85 hX M trivial
  refine k_iload_n hX (i := 3) rfl rfl dX3_load_79 ?_
  refine k_bipush (v := (nI 120)) hX rfl dX3_load_80 ?_
  refine k_icmp_lt (tgt := 87) hX dX3_load_82 (by decide) (fun b2 => ?_) (fun b2 => ?_)
  · refine k_aload_n hX (i := 0) rfl rfl dX3_load_87 ?_
    refine k_get hX io_17 fl_X3_9 rfl dX3_load_88 ?_
    refine k_iload_n hX (i := 3) rfl rfl dX3_load_91 ?_
    refine k_iload hX rfl dX3_load_92 ?_
    refine k_ast hX locC ia_18 dX3_load_94 (fun M3 => ?_)
    refine k_iinc (v := x4 - nI 1) (L' := [some (.ref (ad 17)), some (.ref (ad x1)), some (.int x2), some (.int (x3 + (x6 - (nI 1)))), some (.int (x4 - nI 1)), none, some (.int x6), some (.int x7)]) hX (i := 4) rfl (iinc_neg _ _ rfl) (by decide) rfl dX3_load_95 ?_
    refine k_goto (tgt := 13) hX dX3_load_98 (by decide) ?_
    exact hk13 x1 x2 (x3 + (x6 - (nI 1))) (x4 - nI 1) hx1 M3 ⟨rfl, rfl, rfl, rfl, rfl, trivial⟩
  exact w_X3_load_85 hX M trivial
set_option maxHeartbeats 4000000 in
set_option maxRecDepth 100000 in
theorem w_X3_load_117 {l : Launch} {G : GL} {ad : Nat → Nat} {MM : Mem} {X : CT} (hX : Cx l { frames := 2, cells := 0, slots := 0, locals := 56 } cX3_load RX3 8 (some .int) G ad X) : ∀ (s0 : Int32) (M : Mem) {L : List (Option Value)}, lsub [none, none, none, none, none, none, none, none] L → KF l { frames := 2, cells := 0, slots := 0, locals := 56 } 8 G ad (EC G ad MM) (QP PostI G ad (EC G ad MM)) X (f_X3_load_117 s0 M) L 117 [.int s0] M := by
  intro s0 M L hL
  unfold f_X3_load_117
  refine KF.locals (lsub_le hL) ?_
  exact k_iret hX dX3_load_117
set_option maxHeartbeats 4000000 in
set_option maxRecDepth 100000 in
theorem w_X3_load_13 {l : Launch} {G : GL} {ad : Nat → Nat} {MM : Mem} {X : CT} (hX : Cx l { frames := 2, cells := 0, slots := 0, locals := 56 } cX3_load RX3 8 (some .int) G ad X) : ∀ (n : Nat), ∀ (x1 : Nat) (x2 : Int32) (x3 : Int32) (x4 : Int32) (hx1 : isWb x1 = true) (M : Mem) {L : List (Option Value)}, lsub [some (.ref (ad 17)), some (.ref (ad x1)), some (.int x2), some (.int x3), some (.int x4), none, none, none] L → KF l { frames := 2, cells := 0, slots := 0, locals := 56 } 8 G ad (EC G ad MM) (QP PostI G ad (EC G ad MM)) X (f_X3_load_13 n x1 x2 x3 x4 M) L 13 [] M := by
  intro n
  induction n with
  | zero =>
    intro x1 x2 x3 x4 hx1 M L hL
    exact KF.none'
  | succ n ih =>
    intro x1 x2 x3 x4 hx1 M L hL
    rw [f_X3_load_13]
    refine KF.locals (lsub_le hL) ?_
    refine k_iload hX rfl dX3_load_13 ?_
    refine k_if_lt (tgt := 101) hX dX3_load_15 (by decide) (fun b1 => ?_) (fun b1 => ?_)
    · refine k_iload_n hX (i := 3) rfl rfl dX3_load_101 ?_
      refine k_bipush (v := (nI 120)) hX rfl dX3_load_102 ?_
      refine k_icmp_ge (tgt := 116) hX dX3_load_104 (by decide) (fun b2 => ?_) (fun b2 => ?_)
      · refine k_iconst (v := (nI 0)) hX rfl dX3_load_116 ?_
        exact w_X3_load_117 hX (nI 0) M trivial
      refine k_aload_n hX (i := 0) rfl rfl dX3_load_107 ?_
      refine k_get hX io_17 fl_X3_9 rfl dX3_load_108 ?_
      refine k_iload_n hX (i := 3) rfl rfl dX3_load_111 ?_
      refine k_ald hX ia_18 dX3_load_112 (fun v3 => ?_)
      refine k_goto (tgt := 117) hX dX3_load_113 (by decide) ?_
      exact w_X3_load_117 hX v3 M trivial
    refine k_aload_n hX (i := 1) rfl rfl dX3_load_18 ?_
    refine k_get hX (io_W hx1) fl_X3_34 rfl dX3_load_19 ?_
    refine k_iload_n hX (i := 2) rfl rfl dX3_load_22 ?_
    refine k_bipush (v := (nI 120)) hX rfl dX3_load_23 ?_
    refine k_imul hX dX3_load_25 ?_
    refine k_iload hX rfl dX3_load_26 ?_
    refine k_iadd hX dX3_load_28 ?_
    refine k_ald hX (ia_W2 hx1) dX3_load_29 (fun v4 => ?_)
    refine k_istore (L' := [some (.ref (ad 17)), some (.ref (ad x1)), some (.int x2), some (.int x3), some (.int x4), some (.int v4), none, none]) hX (by decide) rfl dX3_load_30 ?_
    refine k_iload hX rfl dX3_load_32 ?_
    refine k_iconst (v := (nI 5)) hX rfl dX3_load_34 ?_
    refine k_ishr hX dX3_load_35 ?_
    refine k_istore (L' := [some (.ref (ad 17)), some (.ref (ad x1)), some (.int x2), some (.int x3), some (.int x4), some (.int v4), some (.int (v4 >>> ((nI 5) &&& nI 31))), none]) hX (by decide) rfl dX3_load_36 ?_
    refine k_iload hX rfl dX3_load_38 ?_
    refine k_istore (L' := [some (.ref (ad 17)), some (.ref (ad x1)), some (.int x2), some (.int x3), some (.int x4), some (.int v4), some (.int (v4 >>> ((nI 5) &&& nI 31))), some (.int v4)]) hX (by decide) rfl dX3_load_40 ?_
    refine k_iload hX rfl dX3_load_42 ?_
    refine k_if_le (tgt := 68) hX dX3_load_44 (by decide) (fun b5 => ?_) (fun b5 => ?_)
    · exact w_X3_load_68 hX ih x1 x2 x3 x4 (v4 >>> ((nI 5) &&& nI 31)) v4 hx1 M ⟨rfl, rfl, rfl, rfl, rfl, rfl, rfl, trivial⟩
    refine k_aload_n hX (i := 0) rfl rfl dX3_load_47 ?_
    refine k_get hX io_17 fl_X3_25 rfl dX3_load_48 ?_
    refine k_iload hX rfl dX3_load_51 ?_
    refine k_bipush (v := (nI 31)) hX rfl dX3_load_53 ?_
    refine k_iand hX dX3_load_55 ?_
    refine k_aload_n hX (i := 0) rfl rfl dX3_load_56 ?_
    refine k_get hX io_17 fl_X3_9 rfl dX3_load_57 ?_
    refine k_iload_n hX (i := 3) rfl rfl dX3_load_60 ?_
    refine k_iload hX rfl dX3_load_61 ?_
    refine k_callVI (vs := [.int (v4 &&& (nI 31)), .ref (ad 18), .int x3, .int (v4 >>> ((nI 5) &&& nI 31))]) hX (fun _ h9 => m_X1_make hX.2.2.2.2.2.2.1 (by decide) h9) io_1 rfl ml_X3_37 ⟨Nat.le_of_ble_eq_true rfl, Nat.le_of_ble_eq_true rfl⟩ rfl rfl (Nat.le_of_ble_eq_true rfl) dX3_load_63 (fun q6 => ?_)
    refine k_istore (L' := [some (.ref (ad 17)), some (.ref (ad x1)), some (.int x2), some (.int x3), some (.int x4), some (.int v4), some (.int (v4 >>> ((nI 5) &&& nI 31))), some (.int q6.1)]) hX (by decide) rfl dX3_load_66 ?_
    exact w_X3_load_68 hX ih x1 x2 x3 x4 (v4 >>> ((nI 5) &&& nI 31)) q6.1 hx1 q6.2 ⟨rfl, rfl, rfl, rfl, rfl, rfl, rfl, trivial⟩
set_option maxHeartbeats 4000000 in
set_option maxRecDepth 100000 in
theorem w_X3_load {l : Launch} {G : GL} {ad : Nat → Nat} {MM : Mem} {X : CT} (hX : Cx l { frames := 2, cells := 0, slots := 0, locals := 56 } cX3_load RX3 8 (some .int) G ad X) {p1 : Nat} {p2 : Int32} (hp1 : isWb p1 = true) {M : Mem} : KF l { frames := 2, cells := 0, slots := 0, locals := 56 } 8 G ad (EC G ad MM) (QP PostI G ad (EC G ad MM)) X (f_X3_load p1 p2 M) [some (.ref (ad 17)), some (.ref (ad p1)), some (.int p2), none, none, none, none, none] 0 [] M := by
  unfold f_X3_load
  refine k_bipush (v := (nI 120)) hX rfl dX3_load_0 ?_
  refine k_istore_n (L' := [some (.ref (ad 17)), some (.ref (ad p1)), some (.int p2), some (.int (nI 120)), none, none, none, none]) hX (i := 3) rfl (by decide) rfl dX3_load_2 ?_
  refine k_aload_n hX (i := 1) rfl rfl dX3_load_3 ?_
  refine k_get hX (io_W hp1) fl_X3_29 rfl dX3_load_4 ?_
  refine k_iload_n hX (i := 2) rfl rfl dX3_load_7 ?_
  refine k_ald hX (ia_W1 hp1) dX3_load_8 (fun v1 => ?_)
  refine k_iconst (v := (nI 1)) hX rfl dX3_load_9 ?_
  refine k_isub hX dX3_load_10 ?_
  refine k_istore (L' := [some (.ref (ad 17)), some (.ref (ad p1)), some (.int p2), some (.int (nI 120)), some (.int (v1 - (nI 1))), none, none, none]) hX (by decide) rfl dX3_load_11 ?_
  exact w_X3_load_13 hX fuelN p1 p2 (nI 120) (v1 - (nI 1)) hp1 M ⟨rfl, rfl, rfl, rfl, rfl, trivial⟩
set_option maxRecDepth 100000 in
theorem m_X3_load {l : Launch} {G : GL} {ad : Nat → Nat} {MM : Mem} (hAd : AdOK G ad) {p1 : Nat} {p2 : Int32} (hp1 : isWb p1 = true) {M : Mem} {r : Rv} (h : f_X3_load p1 p2 M = some r) : Ct PostI l G ad (EC G ad MM) yX3_load cX3_load 8 (some .int) 2 56 [.ref (ad 17), .ref (ad p1), .int p2] M r := ct_of' hAd (by decide +kernel) (List.forall_mem_cons.mpr ⟨rfl, (List.forall_mem_cons.mpr ⟨rfl, (List.forall_mem_cons.mpr ⟨rfl, (fun _ h => absurd h List.not_mem_nil)⟩)⟩)⟩) (Nat.le_of_ble_eq_true rfl) (L := [some (.ref (ad 17)), some (.ref (ad p1)), some (.int p2), none, none, none, none, none]) rfl (fun _ hX => w_X3_load hX hp1) h
set_option maxHeartbeats 4000000 in
set_option maxRecDepth 100000 in
theorem w_X3_save_139 {l : Launch} {G : GL} {ad : Nat → Nat} {MM : Mem} {X : CT} (hX : Cx l { frames := 1, cells := 0, slots := 0, locals := 22 } cX3_save RX3 10 none G ad X) {k24 : Nat → Int32 → Int32 → Int32 → Int32 → Mem → Option Rv} (hk24 : ∀ (x2 : Nat) (x3 : Int32) (x4 : Int32) (x5 : Int32) (x6 : Int32) (hx2 : isWb x2 = true) (M : Mem) {L : List (Option Value)}, lsub [some (.ref (ad 17)), none, some (.ref (ad x2)), some (.int x3), some (.int x4), some (.int x5), some (.int x6), none, none, none] L → KF l { frames := 1, cells := 0, slots := 0, locals := 22 } 10 G ad (EC G ad MM) (QP PostV G ad (EC G ad MM)) X (k24 x2 x3 x4 x5 x6 M) L 24 [] M) : ∀ (x2 : Nat) (x3 : Int32) (x4 : Int32) (x5 : Int32) (x6 : Int32) (hx2 : isWb x2 = true) (M : Mem) {L : List (Option Value)}, lsub [some (.ref (ad 17)), none, some (.ref (ad x2)), some (.int x3), some (.int x4), some (.int x5), some (.int x6), none, none, none] L → KF l { frames := 1, cells := 0, slots := 0, locals := 22 } 10 G ad (EC G ad MM) (QP PostV G ad (EC G ad MM)) X (f_X3_save_139 k24 x2 x3 x4 x5 x6 M) L 139 [] M := by
  intro x2 x3 x4 x5 x6 hx2 M L hL
  unfold f_X3_save_139
  refine KF.locals (lsub_le hL) ?_
  refine k_iinc (v := x6 + nI 1) (L' := [some (.ref (ad 17)), none, some (.ref (ad x2)), some (.int x3), some (.int x4), some (.int x5), some (.int (x6 + nI 1)), none, none, none]) hX (i := 6) rfl rfl (by decide) rfl dX3_save_139 ?_
  refine k_goto (tgt := 24) hX dX3_save_142 (by decide) ?_
  exact hk24 x2 x3 x4 x5 (x6 + nI 1) hx2 M ⟨rfl, rfl, rfl, rfl, rfl, rfl, trivial⟩
set_option maxHeartbeats 4000000 in
set_option maxRecDepth 100000 in
theorem w_X3_save_100 {l : Launch} {G : GL} {ad : Nat → Nat} {MM : Mem} {X : CT} (hX : Cx l { frames := 1, cells := 0, slots := 0, locals := 22 } cX3_save RX3 10 none G ad X) {k24 : Nat → Int32 → Int32 → Int32 → Int32 → Mem → Option Rv} (hk24 : ∀ (x2 : Nat) (x3 : Int32) (x4 : Int32) (x5 : Int32) (x6 : Int32) (hx2 : isWb x2 = true) (M : Mem) {L : List (Option Value)}, lsub [some (.ref (ad 17)), none, some (.ref (ad x2)), some (.int x3), some (.int x4), some (.int x5), some (.int x6), none, none, none] L → KF l { frames := 1, cells := 0, slots := 0, locals := 22 } 10 G ad (EC G ad MM) (QP PostV G ad (EC G ad MM)) X (k24 x2 x3 x4 x5 x6 M) L 24 [] M) : ∀ (n : Nat), ∀ (x2 : Nat) (x3 : Int32) (x4 : Int32) (x5 : Int32) (x6 : Int32) (x7 : Int32) (x9 : Int32) (hx2 : isWb x2 = true) (M : Mem) {L : List (Option Value)}, lsub [some (.ref (ad 17)), none, some (.ref (ad x2)), some (.int x3), some (.int x4), some (.int x5), some (.int x6), some (.int x7), none, some (.int x9)] L → KF l { frames := 1, cells := 0, slots := 0, locals := 22 } 10 G ad (EC G ad MM) (QP PostV G ad (EC G ad MM)) X (f_X3_save_100 k24 n x2 x3 x4 x5 x6 x7 x9 M) L 100 [] M := by
  intro n
  induction n with
  | zero =>
    intro x2 x3 x4 x5 x6 x7 x9 hx2 M L hL
    exact KF.none'
  | succ n ih =>
    intro x2 x3 x4 x5 x6 x7 x9 hx2 M L hL
    rw [f_X3_save_100]
    refine KF.locals (lsub_le hL) ?_
    refine k_iload hX rfl dX3_save_100 ?_
    refine k_if_lt (tgt := 139) hX dX3_save_102 (by decide) (fun b1 => ?_) (fun b1 => ?_)
    · exact w_X3_save_139 hX hk24 x2 x3 x4 x5 x6 hx2 M ⟨rfl, rfl, rfl, rfl, rfl, rfl, trivial⟩
    refine k_iload hX rfl dX3_save_105 ?_
    refine k_bipush (v := (nI 120)) hX rfl dX3_save_107 ?_
    refine k_icmp_ge (tgt := 139) hX dX3_save_109 (by decide) (fun b2 => ?_) (fun b2 => ?_)
    · exact w_X3_save_139 hX hk24 x2 x3 x4 x5 x6 hx2 M ⟨rfl, rfl, rfl, rfl, rfl, rfl, trivial⟩
    refine k_aload_n hX (i := 0) rfl rfl dX3_save_112 ?_
    refine k_get hX io_17 fl_X3_9 rfl dX3_save_113 ?_
    refine k_iload hX rfl dX3_save_116 ?_
    refine k_aload_n hX (i := 0) rfl rfl dX3_save_118 ?_
    refine k_get hX io_17 fl_X3_25 rfl dX3_save_119 ?_
    refine k_iload hX rfl dX3_save_122 ?_
    refine k_iload hX rfl dX3_save_124 ?_
    refine k_callVI (vs := [.int x7, .int x9]) hX (fun _ h9 => m_X1_kid hX.2.2.2.2.2.2.1  h9) io_1 rfl ml_X3_52 ⟨Nat.le_of_ble_eq_true rfl, Nat.le_of_ble_eq_true rfl⟩ rfl rfl (Nat.le_of_ble_eq_true rfl) dX3_save_126 (fun q3 => ?_)
    refine k_ast hX locC ia_18 dX3_save_129 (fun M4 => ?_)
    refine k_iinc (v := x5 + nI 1) (L' := [some (.ref (ad 17)), none, some (.ref (ad x2)), some (.int x3), some (.int x4), some (.int (x5 + nI 1)), some (.int x6), some (.int x7), none, some (.int x9)]) hX (i := 5) rfl rfl (by decide) rfl dX3_save_130 ?_
    refine k_iinc (v := x9 - nI 1) (L' := [some (.ref (ad 17)), none, some (.ref (ad x2)), some (.int x3), some (.int x4), some (.int (x5 + nI 1)), some (.int x6), some (.int x7), none, some (.int (x9 - nI 1))]) hX (i := 9) rfl (iinc_neg _ _ rfl) (by decide) rfl dX3_save_133 ?_
    refine k_goto (tgt := 100) hX dX3_save_136 (by decide) ?_
    exact ih x2 x3 x4 (x5 + nI 1) x6 x7 (x9 - nI 1) hx2 M4 ⟨rfl, rfl, rfl, rfl, rfl, rfl, rfl, rfl, trivial⟩
set_option maxHeartbeats 4000000 in
set_option maxRecDepth 100000 in
theorem w_X3_save_145 {l : Launch} {G : GL} {ad : Nat → Nat} {MM : Mem} {X : CT} (hX : Cx l { frames := 1, cells := 0, slots := 0, locals := 22 } cX3_save RX3 10 none G ad X) : ∀ (x2 : Nat) (x3 : Int32) (x4 : Int32) (hx2 : isWb x2 = true) (M : Mem) {L : List (Option Value)}, lsub [none, none, some (.ref (ad x2)), some (.int x3), some (.int x4), none, none, none, none, none] L → KF l { frames := 1, cells := 0, slots := 0, locals := 22 } 10 G ad (EC G ad MM) (QP PostV G ad (EC G ad MM)) X (f_X3_save_145 x2 x3 x4 M) L 145 [] M := by
  intro x2 x3 x4 hx2 M L hL
  unfold f_X3_save_145
  refine KF.locals (lsub_le hL) ?_
  refine k_aload_n hX (i := 2) rfl rfl dX3_save_145 ?_
  refine k_get hX (io_W hx2) fl_X3_29 rfl dX3_save_146 ?_
  refine k_iload_n hX (i := 3) rfl rfl dX3_save_149 ?_
  refine k_iload hX rfl dX3_save_150 ?_
  refine k_ast hX locC (ia_W1 hx2) dX3_save_152 (fun M1 => ?_)
  exact k_vret hX dX3_save_153
set_option maxHeartbeats 4000000 in
set_option maxRecDepth 100000 in
theorem w_X3_save_24 {l : Launch} {G : GL} {ad : Nat → Nat} {MM : Mem} {X : CT} (hX : Cx l { frames := 1, cells := 0, slots := 0, locals := 22 } cX3_save RX3 10 none G ad X) : ∀ (n : Nat), ∀ (x2 : Nat) (x3 : Int32) (x4 : Int32) (x5 : Int32) (x6 : Int32) (hx2 : isWb x2 = true) (M : Mem) {L : List (Option Value)}, lsub [some (.ref (ad 17)), none, some (.ref (ad x2)), some (.int x3), some (.int x4), some (.int x5), some (.int x6), none, none, none] L → KF l { frames := 1, cells := 0, slots := 0, locals := 22 } 10 G ad (EC G ad MM) (QP PostV G ad (EC G ad MM)) X (f_X3_save_24 n x2 x3 x4 x5 x6 M) L 24 [] M := by
  intro n
  induction n with
  | zero =>
    intro x2 x3 x4 x5 x6 hx2 M L hL
    exact KF.none'
  | succ n ih =>
    intro x2 x3 x4 x5 x6 hx2 M L hL
    rw [f_X3_save_24]
    refine KF.locals (lsub_le hL) ?_
    refine k_iload hX rfl dX3_save_24 ?_
    refine k_iload hX rfl dX3_save_26 ?_
    refine k_icmp_ge (tgt := 145) hX dX3_save_28 (by decide) (fun b1 => ?_) (fun b1 => ?_)
    · exact w_X3_save_145 hX x2 x3 x4 hx2 M ⟨rfl, rfl, rfl, trivial⟩
    refine k_iload hX rfl dX3_save_31 ?_
    refine k_bipush (v := (nI 120)) hX rfl dX3_save_33 ?_
    refine k_icmp_ge (tgt := 145) hX dX3_save_35 (by decide) (fun b2 => ?_) (fun b2 => ?_)
    · exact w_X3_save_145 hX x2 x3 x4 hx2 M ⟨rfl, rfl, rfl, trivial⟩
    refine k_iload hX rfl dX3_save_38 ?_
    refine k_if_le (tgt := 145) hX dX3_save_40 (by decide) (fun b3 => ?_) (fun b3 => ?_)
    · exact w_X3_save_145 hX x2 x3 x4 hx2 M ⟨rfl, rfl, rfl, trivial⟩
    refine k_iinc (v := x5 - nI 1) (L' := [some (.ref (ad 17)), none, some (.ref (ad x2)), some (.int x3), some (.int x4), some (.int (x5 - nI 1)), some (.int x6), none, none, none]) hX (i := 5) rfl (iinc_neg _ _ rfl) (by decide) rfl dX3_save_43 ?_
    refine k_aload_n hX (i := 0) rfl rfl dX3_save_46 ?_
    refine k_get hX io_17 fl_X3_9 rfl dX3_save_47 ?_
    refine k_iload hX rfl dX3_save_50 ?_
    refine k_ald hX ia_18 dX3_save_52 (fun v4 => ?_)
    refine k_istore (L' := [some (.ref (ad 17)), none, some (.ref (ad x2)), some (.int x3), some (.int x4), some (.int (x5 - nI 1)), some (.int x6), some (.int v4), none, none]) hX (by decide) rfl dX3_save_53 ?_
    refine k_aload_n hX (i := 0) rfl rfl dX3_save_55 ?_
    refine k_get hX io_17 fl_X3_25 rfl dX3_save_56 ?_
    refine k_get hX io_1 fl_X3_46 rfl dX3_save_59 ?_
    refine k_iload hX rfl dX3_save_62 ?_
    refine k_ald hX ia_4 dX3_save_64 (fun v5 => ?_)
    refine k_istore (L' := [some (.ref (ad 17)), none, some (.ref (ad x2)), some (.int x3), some (.int x4), some (.int (x5 - nI 1)), some (.int x6), some (.int v4), some (.int v5), none]) hX (by decide) rfl dX3_save_65 ?_
    refine k_aload_n hX (i := 2) rfl rfl dX3_save_67 ?_
    refine k_get hX (io_W hx2) fl_X3_34 rfl dX3_save_68 ?_
    refine k_iload_n hX (i := 3) rfl rfl dX3_save_71 ?_
    refine k_bipush (v := (nI 120)) hX rfl dX3_save_72 ?_
    refine k_imul hX dX3_save_74 ?_
    refine k_iload hX rfl dX3_save_75 ?_
    refine k_iadd hX dX3_save_77 ?_
    refine k_aload_n hX (i := 0) rfl rfl dX3_save_78 ?_
    refine k_get hX io_17 fl_X3_25 rfl dX3_save_79 ?_
    refine k_get hX io_1 fl_X3_49 rfl dX3_save_82 ?_
    refine k_iload hX rfl dX3_save_85 ?_
    refine k_ald hX ia_2 dX3_save_87 (fun v6 => ?_)
    refine k_iload hX rfl dX3_save_88 ?_
    refine k_iconst (v := (nI 5)) hX rfl dX3_save_90 ?_
    refine k_ishl hX dX3_save_91 ?_
    refine k_ior hX dX3_save_92 ?_
    refine k_ast hX locC (ia_W2 hx2) dX3_save_93 (fun M7 => ?_)
    refine k_iload hX rfl dX3_save_94 ?_
    refine k_iconst (v := (nI 1)) hX rfl dX3_save_96 ?_
    refine k_isub hX dX3_save_97 ?_
    refine k_istore (L' := [some (.ref (ad 17)), none, some (.ref (ad x2)), some (.int x3), some (.int x4), some (.int (x5 - nI 1)), some (.int x6), some (.int v4), some (.int v5), some (.int (v5 - (nI 1)))]) hX (by decide) rfl dX3_save_98 ?_
    exact w_X3_save_100 hX ih fuelN x2 x3 x4 (x5 - nI 1) x6 v4 (v5 - (nI 1)) hx2 M7 ⟨rfl, rfl, rfl, rfl, rfl, rfl, rfl, rfl, trivial⟩
set_option maxHeartbeats 4000000 in
set_option maxRecDepth 100000 in
theorem w_X3_save {l : Launch} {G : GL} {ad : Nat → Nat} {MM : Mem} {X : CT} (hX : Cx l { frames := 1, cells := 0, slots := 0, locals := 22 } cX3_save RX3 10 none G ad X) {p1 : Int32} {p2 : Nat} {p3 : Int32} (hp2 : isWb p2 = true) {M : Mem} : KF l { frames := 1, cells := 0, slots := 0, locals := 22 } 10 G ad (EC G ad MM) (QP PostV G ad (EC G ad MM)) X (f_X3_save p1 p2 p3 M) [some (.ref (ad 17)), some (.int p1), some (.ref (ad p2)), some (.int p3), none, none, none, none, none, none] 0 [] M := by
  unfold f_X3_save
  refine k_aload_n hX (i := 0) rfl rfl dX3_save_0 ?_
  refine k_get hX io_17 fl_X3_25 rfl dX3_save_1 ?_
  refine k_get hX io_1 fl_X3_43 rfl dX3_save_4 ?_
  refine k_iload_n hX (i := 1) rfl rfl dX3_save_7 ?_
  refine k_ald hX ia_5 dX3_save_8 (fun v1 => ?_)
  refine k_istore (L' := [some (.ref (ad 17)), some (.int p1), some (.ref (ad p2)), some (.int p3), some (.int v1), none, none, none, none, none]) hX (by decide) rfl dX3_save_9 ?_
  refine k_iconst (v := (nI 1)) hX rfl dX3_save_11 ?_
  refine k_istore (L' := [some (.ref (ad 17)), some (.int p1), some (.ref (ad p2)), some (.int p3), some (.int v1), some (.int (nI 1)), none, none, none, none]) hX (by decide) rfl dX3_save_12 ?_
  refine k_aload_n hX (i := 0) rfl rfl dX3_save_14 ?_
  refine k_get hX io_17 fl_X3_9 rfl dX3_save_15 ?_
  refine k_iconst (v := (nI 0)) hX rfl dX3_save_18 ?_
  refine k_iload_n hX (i := 1) rfl rfl dX3_save_19 ?_
  refine k_ast hX locC ia_18 dX3_save_20 (fun M2 => ?_)
  refine k_iconst (v := (nI 0)) hX rfl dX3_save_21 ?_
  refine k_istore (L' := [some (.ref (ad 17)), some (.int p1), some (.ref (ad p2)), some (.int p3), some (.int v1), some (.int (nI 1)), some (.int (nI 0)), none, none, none]) hX (by decide) rfl dX3_save_22 ?_
  exact w_X3_save_24 hX fuelN p2 p3 v1 (nI 1) (nI 0) hp2 M2 ⟨rfl, rfl, rfl, rfl, rfl, rfl, trivial⟩
set_option maxRecDepth 100000 in
theorem m_X3_save {l : Launch} {G : GL} {ad : Nat → Nat} {MM : Mem} (hAd : AdOK G ad) {p1 : Int32} {p2 : Nat} {p3 : Int32} (hp2 : isWb p2 = true) {M : Mem} {r : Rv} (h : f_X3_save p1 p2 p3 M = some r) : Ct PostV l G ad (EC G ad MM) yX3_save cX3_save 10 none 1 22 [.ref (ad 17), .int p1, .ref (ad p2), .int p3] M r := ct_of' hAd (by decide +kernel) (List.forall_mem_cons.mpr ⟨rfl, (List.forall_mem_cons.mpr ⟨rfl, (List.forall_mem_cons.mpr ⟨rfl, (List.forall_mem_cons.mpr ⟨rfl, (fun _ h => absurd h List.not_mem_nil)⟩)⟩)⟩)⟩) (Nat.le_of_ble_eq_true rfl) (L := [some (.ref (ad 17)), some (.int p1), some (.ref (ad p2)), some (.int p3), none, none, none, none, none, none]) rfl (fun _ hX => w_X3_save hX hp2) h
set_option maxHeartbeats 4000000 in
set_option maxRecDepth 100000 in
theorem w_X3_write_30 {l : Launch} {G : GL} {ad : Nat → Nat} {MM : Mem} {X : CT} (hX : Cx l { frames := 0, cells := 0, slots := 0, locals := 0 } cX3_write RX3 2 none G ad X) : ∀ (M : Mem) {L : List (Option Value)}, lsub [none, none] L → KF l { frames := 0, cells := 0, slots := 0, locals := 0 } 2 G ad (EC G ad MM) (QP PostV G ad (EC G ad MM)) X (f_X3_write_30 M) L 30 [] M := by
  intro M L hL
  unfold f_X3_write_30
  refine KF.locals (lsub_le hL) ?_
  exact k_vret hX dX3_write_30
set_option maxHeartbeats 4000000 in
set_option maxRecDepth 100000 in
theorem w_X3_write {l : Launch} {G : GL} {ad : Nat → Nat} {MM : Mem} {X : CT} (hX : Cx l { frames := 0, cells := 0, slots := 0, locals := 0 } cX3_write RX3 2 none G ad X) {p1 : Int32} {M : Mem} : KF l { frames := 0, cells := 0, slots := 0, locals := 0 } 2 G ad (EC G ad MM) (QP PostV G ad (EC G ad MM)) X (f_X3_write p1 M) [some (.ref (ad 17)), some (.int p1)] 0 [] M := by
  unfold f_X3_write
  refine k_aload_n hX (i := 0) rfl rfl dX3_write_0 ?_
  refine k_get hX io_17 fl_X3_56 rfl dX3_write_1 ?_
  refine k_sipush (v := (nI 360)) hX rfl dX3_write_4 ?_
  refine k_icmp_ge (tgt := 30) hX dX3_write_7 (by decide) (fun b1 => ?_) (fun b1 => ?_)
  · exact w_X3_write_30 hX M trivial
  refine k_aload_n hX (i := 0) rfl rfl dX3_write_10 ?_
  refine k_get hX io_17 fl_X3_15 rfl dX3_write_11 ?_
  refine k_aload_n hX (i := 0) rfl rfl dX3_write_14 ?_
  refine k_get hX io_17 fl_X3_56 rfl dX3_write_15 ?_
  refine k_iload_n hX (i := 1) rfl rfl dX3_write_18 ?_
  refine k_cast hX locC ia_19 dX3_write_19 (fun M2 => ?_)
  refine k_aload_n hX (i := 0) rfl rfl dX3_write_20 ?_
  refine k_dup hX rfl dX3_write_21 ?_
  refine k_get hX io_17 fl_X3_56 rfl dX3_write_22 ?_
  refine k_iconst (v := (nI 1)) hX rfl dX3_write_25 ?_
  refine k_iadd hX dX3_write_26 ?_
  refine k_puti hX locC io_17 fp_X3_56 (Nat.le_of_ble_eq_true rfl) rfl dX3_write_27 (fun M3 => ?_)
  exact w_X3_write_30 hX M3 trivial
set_option maxRecDepth 100000 in
theorem m_X3_write {l : Launch} {G : GL} {ad : Nat → Nat} {MM : Mem} (hAd : AdOK G ad) {p1 : Int32} {M : Mem} {r : Rv} (h : f_X3_write p1 M = some r) : Ct PostV l G ad (EC G ad MM) yX3_write cX3_write 2 none 0 0 [.ref (ad 17), .int p1] M r := ct_of' hAd (by decide +kernel) (List.forall_mem_cons.mpr ⟨rfl, (List.forall_mem_cons.mpr ⟨rfl, (fun _ h => absurd h List.not_mem_nil)⟩)⟩) (Nat.le_of_ble_eq_true rfl) (L := [some (.ref (ad 17)), some (.int p1)]) rfl (fun _ hX => w_X3_write hX) h
set_option maxHeartbeats 4000000 in
set_option maxRecDepth 100000 in
theorem w_X3_spellBehindForm_0 {l : Launch} {G : GL} {ad : Nat → Nat} {MM : Mem} {X : CT} (hX : Cx l { frames := 1, cells := 0, slots := 0, locals := 21 } cX3_spellBehindForm RX3 2 none G ad X) : ∀ (n : Nat), ∀ (M : Mem) {L : List (Option Value)}, lsub [some (.ref (ad 17)), none] L → KF l { frames := 1, cells := 0, slots := 0, locals := 21 } 2 G ad (EC G ad MM) (QP PostV G ad (EC G ad MM)) X (f_X3_spellBehindForm_0 n M) L 0 [] M := by
  intro n
  induction n with
  | zero =>
    intro M L hL
    exact KF.none'
  | succ n ih =>
    intro M L hL
    rw [f_X3_spellBehindForm_0]
    refine KF.locals (lsub_le hL) ?_
    refine k_aload_n hX (i := 0) rfl rfl dX3_spellBehindForm_0 ?_
    refine k_get hX io_17 fl_X3_60 rfl dX3_spellBehindForm_1 ?_
    refine k_if_le (tgt := 63) hX dX3_spellBehindForm_4 (by decide) (fun b1 => ?_) (fun b1 => ?_)
    · exact k_vret hX dX3_spellBehindForm_63
    refine k_aload_n hX (i := 0) rfl rfl dX3_spellBehindForm_7 ?_
    refine k_get hX io_17 fl_X3_60 rfl dX3_spellBehindForm_8 ?_
    refine k_iconst (v := (nI 1)) hX rfl dX3_spellBehindForm_11 ?_
    refine k_isub hX dX3_spellBehindForm_12 ?_
    refine k_istore_n (L' := [some (.ref (ad 17)), some (.int ((M 17 6) - (nI 1)))]) hX (i := 1) rfl (by decide) rfl dX3_spellBehindForm_13 ?_
    refine k_aload_n hX (i := 0) rfl rfl dX3_spellBehindForm_14 ?_
    refine k_get hX io_17 fl_X3_22 rfl dX3_spellBehindForm_15 ?_
    refine k_iload_n hX (i := 1) rfl rfl dX3_spellBehindForm_18 ?_
    refine k_dup2 hX rfl rfl dX3_spellBehindForm_19 ?_
    refine k_ald hX ia_21 dX3_spellBehindForm_20 (fun v2 => ?_)
    refine k_iconst (v := (nI 1)) hX rfl dX3_spellBehindForm_21 ?_
    refine k_isub hX dX3_spellBehindForm_22 ?_
    refine k_ast hX locC ia_21 dX3_spellBehindForm_23 (fun M3 => ?_)
    refine k_aload_n hX (i := 0) rfl rfl dX3_spellBehindForm_24 ?_
    refine k_get hX io_17 fl_X3_22 rfl dX3_spellBehindForm_25 ?_
    refine k_iload_n hX (i := 1) rfl rfl dX3_spellBehindForm_28 ?_
    refine k_ald hX ia_21 dX3_spellBehindForm_29 (fun v4 => ?_)
    refine k_if_le (tgt := 44) hX dX3_spellBehindForm_30 (by decide) (fun b5 => ?_) (fun b5 => ?_)
    · refine k_aload_n hX (i := 0) rfl rfl dX3_spellBehindForm_44 ?_
      refine k_bipush (v := (nI 41)) hX rfl dX3_spellBehindForm_45 ?_
      refine k_callVV (vs := [.int (nI 41)]) hX (fun _ h9 => m_X3_write hX.2.2.2.2.2.2.1  h9) io_17 rfl ml_X3_70 ⟨Nat.le_of_ble_eq_true rfl, Nat.le_of_ble_eq_true rfl⟩ rfl rfl (Nat.le_of_ble_eq_true rfl) dX3_spellBehindForm_47 (fun q6 => ?_)
      refine k_aload_n hX (i := 0) rfl rfl dX3_spellBehindForm_50 ?_
      refine k_dup hX rfl dX3_spellBehindForm_51 ?_
      refine k_get hX io_17 fl_X3_60 rfl dX3_spellBehindForm_52 ?_
      refine k_iconst (v := (nI 1)) hX rfl dX3_spellBehindForm_55 ?_
      refine k_isub hX dX3_spellBehindForm_56 ?_
      refine k_puti hX locC io_17 fp_X3_60 (Nat.le_of_ble_eq_true rfl) rfl dX3_spellBehindForm_57 (fun M7 => ?_)
      refine k_goto (tgt := 0) hX dX3_spellBehindForm_60 (by decide) ?_
      exact ih M7 ⟨rfl, trivial⟩
    refine k_aload_n hX (i := 0) rfl rfl dX3_spellBehindForm_33 ?_
    refine k_aload_n hX (i := 0) rfl rfl dX3_spellBehindForm_34 ?_
    refine k_get hX io_17 fl_X3_19 rfl dX3_spellBehindForm_35 ?_
    refine k_iload_n hX (i := 1) rfl rfl dX3_spellBehindForm_38 ?_
    refine k_cald hX ia_20 dX3_spellBehindForm_39 (fun v8 => ?_)
    refine k_callVV (vs := [.int v8]) hX (fun _ h9 => m_X3_write hX.2.2.2.2.2.2.1  h9) io_17 rfl ml_X3_70 ⟨Nat.le_of_ble_eq_true rfl, Nat.le_of_ble_eq_true rfl⟩ rfl rfl (Nat.le_of_ble_eq_true rfl) dX3_spellBehindForm_40 (fun q9 => ?_)
    exact k_vret hX dX3_spellBehindForm_43
set_option maxHeartbeats 4000000 in
set_option maxRecDepth 100000 in
theorem w_X3_spellBehindForm {l : Launch} {G : GL} {ad : Nat → Nat} {MM : Mem} {X : CT} (hX : Cx l { frames := 1, cells := 0, slots := 0, locals := 21 } cX3_spellBehindForm RX3 2 none G ad X) {M : Mem} : KF l { frames := 1, cells := 0, slots := 0, locals := 21 } 2 G ad (EC G ad MM) (QP PostV G ad (EC G ad MM)) X (f_X3_spellBehindForm M) [some (.ref (ad 17)), none] 0 [] M := by
  unfold f_X3_spellBehindForm
  exact w_X3_spellBehindForm_0 hX fuelN M ⟨rfl, trivial⟩
set_option maxRecDepth 100000 in
theorem m_X3_spellBehindForm {l : Launch} {G : GL} {ad : Nat → Nat} {MM : Mem} (hAd : AdOK G ad) {M : Mem} {r : Rv} (h : f_X3_spellBehindForm M = some r) : Ct PostV l G ad (EC G ad MM) yX3_spellBehindForm cX3_spellBehindForm 2 none 1 21 [.ref (ad 17)] M r := ct_of' hAd (by decide +kernel) (List.forall_mem_cons.mpr ⟨rfl, (fun _ h => absurd h List.not_mem_nil)⟩) (Nat.le_of_ble_eq_true rfl) (L := [some (.ref (ad 17)), none]) rfl (fun _ hX => w_X3_spellBehindForm hX) h
set_option maxHeartbeats 4000000 in
set_option maxRecDepth 100000 in
theorem w_X3_spellLeaf_12 {l : Launch} {G : GL} {ad : Nat → Nat} {MM : Mem} {X : CT} (hX : Cx l { frames := 1, cells := 0, slots := 0, locals := 21 } cX3_spellLeaf RX3 2 none G ad X) : ∀ (x1 : Int32) (M : Mem) {L : List (Option Value)}, lsub [some (.ref (ad 17)), some (.int x1)] L → KF l { frames := 1, cells := 0, slots := 0, locals := 21 } 2 G ad (EC G ad MM) (QP PostV G ad (EC G ad MM)) X (f_X3_spellLeaf_12 x1 M) L 12 [] M := by
  intro x1 M L hL
  unfold f_X3_spellLeaf_12
  refine KF.locals (lsub_le hL) ?_
  refine k_aload_n hX (i := 0) rfl rfl dX3_spellLeaf_12 ?_
  refine k_getll hX sl_X3_77 dX3_spellLeaf_13 ?_
  refine k_iload_n hX (i := 1) rfl rfl dX3_spellLeaf_16 ?_
  refine k_caldll hX dX3_spellLeaf_17 (fun v1 => ?_)
  refine k_callVV (vs := [.int v1]) hX (fun _ h9 => m_X3_write hX.2.2.2.2.2.2.1  h9) io_17 rfl ml_X3_70 ⟨Nat.le_of_ble_eq_true rfl, Nat.le_of_ble_eq_true rfl⟩ rfl rfl (Nat.le_of_ble_eq_true rfl) dX3_spellLeaf_18 (fun q2 => ?_)
  exact k_vret hX dX3_spellLeaf_21
set_option maxHeartbeats 4000000 in
set_option maxRecDepth 100000 in
theorem w_X3_spellLeaf {l : Launch} {G : GL} {ad : Nat → Nat} {MM : Mem} {X : CT} (hX : Cx l { frames := 1, cells := 0, slots := 0, locals := 21 } cX3_spellLeaf RX3 2 none G ad X) {p1 : Int32} {M : Mem} : KF l { frames := 1, cells := 0, slots := 0, locals := 21 } 2 G ad (EC G ad MM) (QP PostV G ad (EC G ad MM)) X (f_X3_spellLeaf p1 M) [some (.ref (ad 17)), some (.int p1)] 0 [] M := by
  unfold f_X3_spellLeaf
  refine k_iload_n hX (i := 1) rfl rfl dX3_spellLeaf_0 ?_
  refine k_bipush (v := (nI 10)) hX rfl dX3_spellLeaf_1 ?_
  refine k_icmp_lt (tgt := 12) hX dX3_spellLeaf_3 (by decide) (fun b1 => ?_) (fun b1 => ?_)
  · exact w_X3_spellLeaf_12 hX p1 M ⟨rfl, rfl, trivial⟩
  refine k_aload_n hX (i := 0) rfl rfl dX3_spellLeaf_6 ?_
  refine k_bipush (v := (nI 45)) hX rfl dX3_spellLeaf_7 ?_
  refine k_callVV (vs := [.int (nI 45)]) hX (fun _ h9 => m_X3_write hX.2.2.2.2.2.2.1  h9) io_17 rfl ml_X3_70 ⟨Nat.le_of_ble_eq_true rfl, Nat.le_of_ble_eq_true rfl⟩ rfl rfl (Nat.le_of_ble_eq_true rfl) dX3_spellLeaf_9 (fun q2 => ?_)
  exact w_X3_spellLeaf_12 hX p1 q2.2 ⟨rfl, rfl, trivial⟩
set_option maxRecDepth 100000 in
theorem m_X3_spellLeaf {l : Launch} {G : GL} {ad : Nat → Nat} {MM : Mem} (hAd : AdOK G ad) {p1 : Int32} {M : Mem} {r : Rv} (h : f_X3_spellLeaf p1 M = some r) : Ct PostV l G ad (EC G ad MM) yX3_spellLeaf cX3_spellLeaf 2 none 1 21 [.ref (ad 17), .int p1] M r := ct_of' hAd (by decide +kernel) (List.forall_mem_cons.mpr ⟨rfl, (List.forall_mem_cons.mpr ⟨rfl, (fun _ h => absurd h List.not_mem_nil)⟩)⟩) (Nat.le_of_ble_eq_true rfl) (L := [some (.ref (ad 17)), some (.int p1)]) rfl (fun _ hX => w_X3_spellLeaf hX) h
set_option maxHeartbeats 4000000 in
set_option maxRecDepth 100000 in
theorem w_X3_spell_144 {l : Launch} {G : GL} {ad : Nat → Nat} {MM : Mem} {X : CT} (hX : Cx l { frames := 2, cells := 0, slots := 0, locals := 42 } cX3_spell RX3 7 (some .int) G ad X) {k12 : Nat → Int32 → Int32 → Mem → Option Rv} (hk12 : ∀ (x1 : Nat) (x2 : Int32) (x3 : Int32) (hx1 : isWb x1 = true) (M : Mem) {L : List (Option Value)}, lsub [some (.ref (ad 17)), some (.ref (ad x1)), some (.int x2), some (.int x3), none, none, none] L → KF l { frames := 2, cells := 0, slots := 0, locals := 42 } 7 G ad (EC G ad MM) (QP PostI G ad (EC G ad MM)) X (k12 x1 x2 x3 M) L 12 [] M) : ∀ (x1 : Nat) (x2 : Int32) (x3 : Int32) (hx1 : isWb x1 = true) (M : Mem) {L : List (Option Value)}, lsub [some (.ref (ad 17)), some (.ref (ad x1)), some (.int x2), some (.int x3), none, none, none] L → KF l { frames := 2, cells := 0, slots := 0, locals := 42 } 7 G ad (EC G ad MM) (QP PostI G ad (EC G ad MM)) X (f_X3_spell_144 k12 x1 x2 x3 M) L 144 [] M := by
  intro x1 x2 x3 hx1 M L hL
  unfold f_X3_spell_144
  refine KF.locals (lsub_le hL) ?_
  refine k_iinc (v := x3 + nI 1) (L' := [some (.ref (ad 17)), some (.ref (ad x1)), some (.int x2), some (.int (x3 + nI 1)), none, none, none]) hX (i := 3) rfl rfl (by decide) rfl dX3_spell_144 ?_
  refine k_goto (tgt := 12) hX dX3_spell_147 (by decide) ?_
  exact hk12 x1 x2 (x3 + nI 1) hx1 M ⟨rfl, rfl, rfl, rfl, trivial⟩
set_option maxHeartbeats 4000000 in
set_option maxRecDepth 100000 in
theorem w_X3_spell_87 {l : Launch} {G : GL} {ad : Nat → Nat} {MM : Mem} {X : CT} (hX : Cx l { frames := 2, cells := 0, slots := 0, locals := 42 } cX3_spell RX3 7 (some .int) G ad X) {k12 : Nat → Int32 → Int32 → Mem → Option Rv} (hk12 : ∀ (x1 : Nat) (x2 : Int32) (x3 : Int32) (hx1 : isWb x1 = true) (M : Mem) {L : List (Option Value)}, lsub [some (.ref (ad 17)), some (.ref (ad x1)), some (.int x2), some (.int x3), none, none, none] L → KF l { frames := 2, cells := 0, slots := 0, locals := 42 } 7 G ad (EC G ad MM) (QP PostI G ad (EC G ad MM)) X (k12 x1 x2 x3 M) L 12 [] M) : ∀ (x1 : Nat) (x2 : Int32) (x3 : Int32) (s0 : Int32) (hx1 : isWb x1 = true) (M : Mem) {L : List (Option Value)}, lsub [some (.ref (ad 17)), some (.ref (ad x1)), some (.int x2), some (.int x3), none, none, none] L → KF l { frames := 2, cells := 0, slots := 0, locals := 42 } 7 G ad (EC G ad MM) (QP PostI G ad (EC G ad MM)) X (f_X3_spell_87 k12 x1 x2 x3 s0 M) L 87 [.int s0, .ref (ad 17)] M := by
  intro x1 x2 x3 s0 hx1 M L hL
  unfold f_X3_spell_87
  refine KF.locals (lsub_le hL) ?_
  refine k_callVV (vs := [.int s0]) hX (fun _ h9 => m_X3_write hX.2.2.2.2.2.2.1  h9) io_17 rfl ml_X3_70 ⟨Nat.le_of_ble_eq_true rfl, Nat.le_of_ble_eq_true rfl⟩ rfl rfl (Nat.le_of_ble_eq_true rfl) dX3_spell_87 (fun q1 => ?_)
  refine k_goto (tgt := 144) hX dX3_spell_90 (by decide) ?_
  exact w_X3_spell_144 hX hk12 x1 x2 x3 hx1 q1.2 ⟨rfl, rfl, rfl, rfl, trivial⟩
set_option maxHeartbeats 4000000 in
set_option maxRecDepth 100000 in
theorem w_X3_spell_12 {l : Launch} {G : GL} {ad : Nat → Nat} {MM : Mem} {X : CT} (hX : Cx l { frames := 2, cells := 0, slots := 0, locals := 42 } cX3_spell RX3 7 (some .int) G ad X) : ∀ (n : Nat), ∀ (x1 : Nat) (x2 : Int32) (x3 : Int32) (hx1 : isWb x1 = true) (M : Mem) {L : List (Option Value)}, lsub [some (.ref (ad 17)), some (.ref (ad x1)), some (.int x2), some (.int x3), none, none, none] L → KF l { frames := 2, cells := 0, slots := 0, locals := 42 } 7 G ad (EC G ad MM) (QP PostI G ad (EC G ad MM)) X (f_X3_spell_12 n x1 x2 x3 M) L 12 [] M := by
  intro n
  induction n with
  | zero =>
    intro x1 x2 x3 hx1 M L hL
    exact KF.none'
  | succ n ih =>
    intro x1 x2 x3 hx1 M L hL
    rw [f_X3_spell_12]
    refine KF.locals (lsub_le hL) ?_
    refine k_iload_n hX (i := 3) rfl rfl dX3_spell_12 ?_
    refine k_aload_n hX (i := 1) rfl rfl dX3_spell_13 ?_
    refine k_get hX (io_W hx1) fl_X3_29 rfl dX3_spell_14 ?_
    refine k_iload_n hX (i := 2) rfl rfl dX3_spell_17 ?_
    refine k_ald hX (ia_W1 hx1) dX3_spell_18 (fun v1 => ?_)
    refine k_icmp_ge (tgt := 150) hX dX3_spell_19 (by decide) (fun b2 => ?_) (fun b2 => ?_)
    · refine k_aload_n hX (i := 0) rfl rfl dX3_spell_150 ?_
      refine k_get hX io_17 fl_X3_56 rfl dX3_spell_151 ?_
      exact k_iret hX dX3_spell_154
    refine k_aload_n hX (i := 1) rfl rfl dX3_spell_22 ?_
    refine k_get hX (io_W hx1) fl_X3_34 rfl dX3_spell_23 ?_
    refine k_iload_n hX (i := 2) rfl rfl dX3_spell_26 ?_
    refine k_bipush (v := (nI 120)) hX rfl dX3_spell_27 ?_
    refine k_imul hX dX3_spell_29 ?_
    refine k_iload_n hX (i := 3) rfl rfl dX3_spell_30 ?_
    refine k_iadd hX dX3_spell_31 ?_
    refine k_ald hX (ia_W2 hx1) dX3_spell_32 (fun v3 => ?_)
    refine k_istore (L' := [some (.ref (ad 17)), some (.ref (ad x1)), some (.int x2), some (.int x3), some (.int v3), none, none]) hX (by decide) rfl dX3_spell_33 ?_
    refine k_iload hX rfl dX3_spell_35 ?_
    refine k_iconst (v := (nI 5)) hX rfl dX3_spell_37 ?_
    refine k_ishr hX dX3_spell_38 ?_
    refine k_istore (L' := [some (.ref (ad 17)), some (.ref (ad x1)), some (.int x2), some (.int x3), some (.int v3), some (.int (v3 >>> ((nI 5) &&& nI 31))), none]) hX (by decide) rfl dX3_spell_39 ?_
    refine k_iload hX rfl dX3_spell_41 ?_
    refine k_bipush (v := (nI 31)) hX rfl dX3_spell_43 ?_
    refine k_iand hX dX3_spell_45 ?_
    refine k_istore (L' := [some (.ref (ad 17)), some (.ref (ad x1)), some (.int x2), some (.int x3), some (.int v3), some (.int (v3 >>> ((nI 5) &&& nI 31))), some (.int (v3 &&& (nI 31)))]) hX (by decide) rfl dX3_spell_46 ?_
    refine k_iload hX rfl dX3_spell_48 ?_
    refine k_if_ne (tgt := 66) hX dX3_spell_50 (by decide) (fun b4 => ?_) (fun b4 => ?_)
    · refine k_iload hX rfl dX3_spell_66 ?_
      refine k_iconst (v := (nI 1)) hX rfl dX3_spell_68 ?_
      refine k_icmp_ne (tgt := 93) hX dX3_spell_69 (by decide) (fun b5 => ?_) (fun b5 => ?_)
      · refine k_aload_n hX (i := 0) rfl rfl dX3_spell_93 ?_
        refine k_get hX io_17 fl_X3_60 rfl dX3_spell_94 ?_
        refine k_bipush (v := (nI 120)) hX rfl dX3_spell_97 ?_
        refine k_icmp_ge (tgt := 144) hX dX3_spell_99 (by decide) (fun b6 => ?_) (fun b6 => ?_)
        · exact w_X3_spell_144 hX ih x1 x2 x3 hx1 M ⟨rfl, rfl, rfl, rfl, trivial⟩
        refine k_aload_n hX (i := 0) rfl rfl dX3_spell_102 ?_
        refine k_bipush (v := (nI 40)) hX rfl dX3_spell_103 ?_
        refine k_callVV (vs := [.int (nI 40)]) hX (fun _ h9 => m_X3_write hX.2.2.2.2.2.2.1  h9) io_17 rfl ml_X3_70 ⟨Nat.le_of_ble_eq_true rfl, Nat.le_of_ble_eq_true rfl⟩ rfl rfl (Nat.le_of_ble_eq_true rfl) dX3_spell_105 (fun q7 => ?_)
        refine k_aload_n hX (i := 0) rfl rfl dX3_spell_108 ?_
        refine k_get hX io_17 fl_X3_19 rfl dX3_spell_109 ?_
        refine k_aload_n hX (i := 0) rfl rfl dX3_spell_112 ?_
        refine k_get hX io_17 fl_X3_60 rfl dX3_spell_113 ?_
        refine k_getsep hX sl_X3_74 dX3_spell_116 ?_
        refine k_iload hX rfl dX3_spell_119 ?_
        refine k_caldsep hX dX3_spell_121 (fun v8 => ?_)
        refine k_cast hX locC ia_20 dX3_spell_122 (fun M9 => ?_)
        refine k_aload_n hX (i := 0) rfl rfl dX3_spell_123 ?_
        refine k_get hX io_17 fl_X3_22 rfl dX3_spell_124 ?_
        refine k_aload_n hX (i := 0) rfl rfl dX3_spell_127 ?_
        refine k_get hX io_17 fl_X3_60 rfl dX3_spell_128 ?_
        refine k_iload hX rfl dX3_spell_131 ?_
        refine k_ast hX locC ia_21 dX3_spell_133 (fun M10 => ?_)
        refine k_aload_n hX (i := 0) rfl rfl dX3_spell_134 ?_
        refine k_dup hX rfl dX3_spell_135 ?_
        refine k_get hX io_17 fl_X3_60 rfl dX3_spell_136 ?_
        refine k_iconst (v := (nI 1)) hX rfl dX3_spell_139 ?_
        refine k_iadd hX dX3_spell_140 ?_
        refine k_puti hX locC io_17 fp_X3_60 (Nat.le_of_ble_eq_true rfl) rfl dX3_spell_141 (fun M11 => ?_)
        exact w_X3_spell_144 hX ih x1 x2 x3 hx1 M11 ⟨rfl, rfl, rfl, rfl, trivial⟩
      refine k_aload_n hX (i := 0) rfl rfl dX3_spell_72 ?_
      refine k_iload hX rfl dX3_spell_73 ?_
      refine k_bipush (v := (nI 16)) hX rfl dX3_spell_75 ?_
      refine k_icmp_ne (tgt := 85) hX dX3_spell_77 (by decide) (fun b12 => ?_) (fun b12 => ?_)
      · refine k_bipush (v := (nI 78)) hX rfl dX3_spell_85 ?_
        exact w_X3_spell_87 hX ih x1 x2 x3 (nI 78) hx1 M ⟨rfl, rfl, rfl, rfl, trivial⟩
      refine k_bipush (v := (nI 88)) hX rfl dX3_spell_80 ?_
      refine k_goto (tgt := 87) hX dX3_spell_82 (by decide) ?_
      exact w_X3_spell_87 hX ih x1 x2 x3 (nI 88) hx1 M ⟨rfl, rfl, rfl, rfl, trivial⟩
    refine k_aload_n hX (i := 0) rfl rfl dX3_spell_53 ?_
    refine k_iload hX rfl dX3_spell_54 ?_
    refine k_callVV (vs := [.int (v3 &&& (nI 31))]) hX (fun _ h9 => m_X3_spellLeaf hX.2.2.2.2.2.2.1  h9) io_17 rfl ml_X3_63 ⟨Nat.le_of_ble_eq_true rfl, Nat.le_of_ble_eq_true rfl⟩ rfl rfl (Nat.le_of_ble_eq_true rfl) dX3_spell_56 (fun q13 => ?_)
    refine k_aload_n hX (i := 0) rfl rfl dX3_spell_59 ?_
    refine k_callVV (vs := []) hX (fun _ h9 => m_X3_spellBehindForm hX.2.2.2.2.2.2.1  h9) io_17 rfl ml_X3_67 ⟨Nat.le_of_ble_eq_true rfl, Nat.le_of_ble_eq_true rfl⟩ rfl rfl (Nat.le_of_ble_eq_true rfl) dX3_spell_60 (fun q14 => ?_)
    refine k_goto (tgt := 144) hX dX3_spell_63 (by decide) ?_
    exact w_X3_spell_144 hX ih x1 x2 x3 hx1 q14.2 ⟨rfl, rfl, rfl, rfl, trivial⟩
set_option maxHeartbeats 4000000 in
set_option maxRecDepth 100000 in
theorem w_X3_spell {l : Launch} {G : GL} {ad : Nat → Nat} {MM : Mem} {X : CT} (hX : Cx l { frames := 2, cells := 0, slots := 0, locals := 42 } cX3_spell RX3 7 (some .int) G ad X) {p1 : Nat} {p2 : Int32} (hp1 : isWb p1 = true) {M : Mem} : KF l { frames := 2, cells := 0, slots := 0, locals := 42 } 7 G ad (EC G ad MM) (QP PostI G ad (EC G ad MM)) X (f_X3_spell p1 p2 M) [some (.ref (ad 17)), some (.ref (ad p1)), some (.int p2), none, none, none, none] 0 [] M := by
  unfold f_X3_spell
  refine k_aload_n hX (i := 0) rfl rfl dX3_spell_0 ?_
  refine k_iconst (v := (nI 0)) hX rfl dX3_spell_1 ?_
  refine k_puti hX locC io_17 fp_X3_56 (Nat.le_of_ble_eq_true rfl) rfl dX3_spell_2 (fun M1 => ?_)
  refine k_aload_n hX (i := 0) rfl rfl dX3_spell_5 ?_
  refine k_iconst (v := (nI 0)) hX rfl dX3_spell_6 ?_
  refine k_puti hX locC io_17 fp_X3_60 (Nat.le_of_ble_eq_true rfl) rfl dX3_spell_7 (fun M2 => ?_)
  refine k_iconst (v := (nI 0)) hX rfl dX3_spell_10 ?_
  refine k_istore_n (L' := [some (.ref (ad 17)), some (.ref (ad p1)), some (.int p2), some (.int (nI 0)), none, none, none]) hX (i := 3) rfl (by decide) rfl dX3_spell_11 ?_
  exact w_X3_spell_12 hX fuelN p1 p2 (nI 0) hp1 M2 ⟨rfl, rfl, rfl, rfl, trivial⟩
set_option maxRecDepth 100000 in
theorem m_X3_spell {l : Launch} {G : GL} {ad : Nat → Nat} {MM : Mem} (hAd : AdOK G ad) {p1 : Nat} {p2 : Int32} (hp1 : isWb p1 = true) {M : Mem} {r : Rv} (h : f_X3_spell p1 p2 M = some r) : Ct PostI l G ad (EC G ad MM) yX3_spell cX3_spell 7 (some .int) 2 42 [.ref (ad 17), .ref (ad p1), .int p2] M r := ct_of' hAd (by decide +kernel) (List.forall_mem_cons.mpr ⟨rfl, (List.forall_mem_cons.mpr ⟨rfl, (List.forall_mem_cons.mpr ⟨rfl, (fun _ h => absurd h List.not_mem_nil)⟩)⟩)⟩) (Nat.le_of_ble_eq_true rfl) (L := [some (.ref (ad 17)), some (.ref (ad p1)), some (.int p2), none, none, none, none]) rfl (fun _ hX => w_X3_spell hX hp1) h
