set_option maxHeartbeats 4000000 in
set_option maxRecDepth 100000 in
theorem w_X0_begin {l : Launch} {G : GL} {ad : Nat → Nat} {MM : Mem} {X : CT} (hX : Cx l { frames := 0, cells := 0, slots := 0, locals := 0 } cX0_begin RX0 2 none G ad X) {p1 : Int32} {M : Mem} : KF l { frames := 0, cells := 0, slots := 0, locals := 0 } 2 G ad (EC G ad MM) (QP PostV G ad (EC G ad MM)) X (f_X0_begin p1 M) [some (.ref (ad 13)), some (.int p1)] 0 [] M := by
  unfold f_X0_begin
  refine k_aload_n hX (i := 0) rfl rfl dX0_begin_0 ?_
  refine k_iload_n hX (i := 1) rfl rfl dX0_begin_1 ?_
  refine k_puti hX locC io_13 fp_X0_25 (Nat.le_of_ble_eq_true rfl) rfl dX0_begin_2 (fun M1 => ?_)
  refine k_aload_n hX (i := 0) rfl rfl dX0_begin_5 ?_
  refine k_iconst (v := (nI 0)) hX rfl dX0_begin_6 ?_
  refine k_puti hX locC io_13 fp_X0_29 (Nat.le_of_ble_eq_true rfl) rfl dX0_begin_7 (fun M2 => ?_)
  refine k_aload_n hX (i := 0) rfl rfl dX0_begin_10 ?_
  refine k_iconst (v := (nI 0)) hX rfl dX0_begin_11 ?_
  refine k_puti hX locC io_13 fp_X0_32 (Nat.le_of_ble_eq_true rfl) rfl dX0_begin_12 (fun M3 => ?_)
  exact k_vret hX dX0_begin_15
set_option maxRecDepth 100000 in
theorem m_X0_begin {l : Launch} {G : GL} {ad : Nat → Nat} {MM : Mem} (hAd : AdOK G ad) {p1 : Int32} {M : Mem} {r : Rv} (h : f_X0_begin p1 M = some r) : Ct PostV l G ad (EC G ad MM) yX0_begin cX0_begin 2 none 0 0 [.ref (ad 13), .int p1] M r := ct_of' hAd (by decide +kernel) (List.forall_mem_cons.mpr ⟨rfl, (List.forall_mem_cons.mpr ⟨rfl, (fun _ h => absurd h List.not_mem_nil)⟩)⟩) (Nat.le_of_ble_eq_true rfl) (L := [some (.ref (ad 13)), some (.int p1)]) rfl (fun _ hX => w_X0_begin hX) h
set_option maxHeartbeats 4000000 in
set_option maxRecDepth 100000 in
theorem w_X0_neutral_14 {l : Launch} {G : GL} {ad : Nat → Nat} {MM : Mem} {X : CT} (hX : Cx l { frames := 0, cells := 0, slots := 0, locals := 0 } cX0_neutral RX0 1 (some .int) G ad X) : ∀ (s0 : Int32) (M : Mem) {L : List (Option Value)}, lsub [none] L → KF l { frames := 0, cells := 0, slots := 0, locals := 0 } 1 G ad (EC G ad MM) (QP PostI G ad (EC G ad MM)) X (f_X0_neutral_14 s0 M) L 14 [.int s0] M := by
  intro s0 M L hL
  unfold f_X0_neutral_14
  refine KF.locals (lsub_le hL) ?_
  exact k_iret hX dX0_neutral_14
set_option maxHeartbeats 4000000 in
set_option maxRecDepth 100000 in
theorem w_X0_neutral {l : Launch} {G : GL} {ad : Nat → Nat} {MM : Mem} {X : CT} (hX : Cx l { frames := 0, cells := 0, slots := 0, locals := 0 } cX0_neutral RX0 1 (some .int) G ad X) {M : Mem} : KF l { frames := 0, cells := 0, slots := 0, locals := 0 } 1 G ad (EC G ad MM) (QP PostI G ad (EC G ad MM)) X (f_X0_neutral M) [some (.ref (ad 13))] 0 [] M := by
  unfold f_X0_neutral
  refine k_aload_n hX (i := 0) rfl rfl dX0_neutral_0 ?_
  refine k_get hX io_13 fl_X0_25 rfl dX0_neutral_1 ?_
  refine k_bipush (v := (nI 20)) hX rfl dX0_neutral_4 ?_
  refine k_icmp_ne (tgt := 13) hX dX0_neutral_6 (by decide) (fun b1 => ?_) (fun b1 => ?_)
  · refine k_iconst (v := (nI 0)) hX rfl dX0_neutral_13 ?_
    exact w_X0_neutral_14 hX (nI 0) M trivial
  refine k_iconst (v := (nI 1)) hX rfl dX0_neutral_9 ?_
  refine k_goto (tgt := 14) hX dX0_neutral_10 (by decide) ?_
  exact w_X0_neutral_14 hX (nI 1) M trivial
set_option maxRecDepth 100000 in
theorem m_X0_neutral {l : Launch} {G : GL} {ad : Nat → Nat} {MM : Mem} (hAd : AdOK G ad) {M : Mem} {r : Rv} (h : f_X0_neutral M = some r) : Ct PostI l G ad (EC G ad MM) yX0_neutral cX0_neutral 1 (some .int) 0 0 [.ref (ad 13)] M r := ct_of' hAd (by decide +kernel) (List.forall_mem_cons.mpr ⟨rfl, (fun _ h => absurd h List.not_mem_nil)⟩) (Nat.le_of_ble_eq_true rfl) (L := [some (.ref (ad 13))]) rfl (fun _ hX => w_X0_neutral hX) h
set_option maxHeartbeats 4000000 in
set_option maxRecDepth 100000 in
theorem w_X1_kid_31 {l : Launch} {G : GL} {ad : Nat → Nat} {MM : Mem} {X : CT} (hX : Cx l { frames := 0, cells := 0, slots := 0, locals := 0 } cX1_kid RX1 3 (some .int) G ad X) : ∀ (s0 : Int32) (M : Mem) {L : List (Option Value)}, lsub [none, none, none] L → KF l { frames := 0, cells := 0, slots := 0, locals := 0 } 3 G ad (EC G ad MM) (QP PostI G ad (EC G ad MM)) X (f_X1_kid_31 s0 M) L 31 [.int s0] M := by
  intro s0 M L hL
  unfold f_X1_kid_31
  refine KF.locals (lsub_le hL) ?_
  exact k_iret hX dX1_kid_31
set_option maxHeartbeats 4000000 in
set_option maxRecDepth 100000 in
theorem w_X1_kid_30 {l : Launch} {G : GL} {ad : Nat → Nat} {MM : Mem} {X : CT} (hX : Cx l { frames := 0, cells := 0, slots := 0, locals := 0 } cX1_kid RX1 3 (some .int) G ad X) : ∀ (M : Mem) {L : List (Option Value)}, lsub [none, none, none] L → KF l { frames := 0, cells := 0, slots := 0, locals := 0 } 3 G ad (EC G ad MM) (QP PostI G ad (EC G ad MM)) X (f_X1_kid_30 M) L 30 [] M := by
  intro M L hL
  unfold f_X1_kid_30
  refine KF.locals (lsub_le hL) ?_
  refine k_iconst (v := (nI 0)) hX rfl dX1_kid_30 ?_
  exact w_X1_kid_31 hX (nI 0) M trivial
set_option maxHeartbeats 4000000 in
set_option maxRecDepth 100000 in
theorem w_X1_kid {l : Launch} {G : GL} {ad : Nat → Nat} {MM : Mem} {X : CT} (hX : Cx l { frames := 0, cells := 0, slots := 0, locals := 0 } cX1_kid RX1 3 (some .int) G ad X) {p1 : Int32} {p2 : Int32} {M : Mem} : KF l { frames := 0, cells := 0, slots := 0, locals := 0 } 3 G ad (EC G ad MM) (QP PostI G ad (EC G ad MM)) X (f_X1_kid p1 p2 M) [some (.ref (ad 1)), some (.int p1), some (.int p2)] 0 [] M := by
  unfold f_X1_kid
  refine k_iload_n hX (i := 2) rfl rfl dX1_kid_0 ?_
  refine k_if_lt (tgt := 30) hX dX1_kid_1 (by decide) (fun b1 => ?_) (fun b1 => ?_)
  · exact w_X1_kid_30 hX M trivial
  refine k_iload_n hX (i := 2) rfl rfl dX1_kid_4 ?_
  refine k_aload_n hX (i := 0) rfl rfl dX1_kid_5 ?_
  refine k_get hX io_1 fl_X1_18 rfl dX1_kid_6 ?_
  refine k_iload_n hX (i := 1) rfl rfl dX1_kid_9 ?_
  refine k_ald hX ia_4 dX1_kid_10 (fun v2 => ?_)
  refine k_icmp_ge (tgt := 30) hX dX1_kid_11 (by decide) (fun b3 => ?_) (fun b3 => ?_)
  · exact w_X1_kid_30 hX M trivial
  refine k_aload_n hX (i := 0) rfl rfl dX1_kid_14 ?_
  refine k_get hX io_1 fl_X1_35 rfl dX1_kid_15 ?_
  refine k_aload_n hX (i := 0) rfl rfl dX1_kid_18 ?_
  refine k_get hX io_1 fl_X1_15 rfl dX1_kid_19 ?_
  refine k_iload_n hX (i := 1) rfl rfl dX1_kid_22 ?_
  refine k_ald hX ia_3 dX1_kid_23 (fun v4 => ?_)
  refine k_iload_n hX (i := 2) rfl rfl dX1_kid_24 ?_
  refine k_iadd hX dX1_kid_25 ?_
  refine k_ald hX ia_9 dX1_kid_26 (fun v5 => ?_)
  refine k_goto (tgt := 31) hX dX1_kid_27 (by decide) ?_
  exact w_X1_kid_31 hX v5 M trivial
set_option maxRecDepth 100000 in
theorem m_X1_kid {l : Launch} {G : GL} {ad : Nat → Nat} {MM : Mem} (hAd : AdOK G ad) {p1 : Int32} {p2 : Int32} {M : Mem} {r : Rv} (h : f_X1_kid p1 p2 M = some r) : Ct PostI l G ad (EC G ad MM) yX1_kid cX1_kid 3 (some .int) 0 0 [.ref (ad 1), .int p1, .int p2] M r := ct_of' hAd (by decide +kernel) (List.forall_mem_cons.mpr ⟨rfl, (List.forall_mem_cons.mpr ⟨rfl, (List.forall_mem_cons.mpr ⟨rfl, (fun _ h => absurd h List.not_mem_nil)⟩)⟩)⟩) (Nat.le_of_ble_eq_true rfl) (L := [some (.ref (ad 1)), some (.int p1), some (.int p2)]) rfl (fun _ hX => w_X1_kid hX) h
set_option maxHeartbeats 4000000 in
set_option maxRecDepth 100000 in
theorem w_X1_order_66 {l : Launch} {G : GL} {ad : Nat → Nat} {MM : Mem} {X : CT} (hX : Cx l { frames := 0, cells := 0, slots := 0, locals := 0 } cX1_order RX1 10 (some .int) G ad X) : ∀ (x3 : Int32) (x4 : Int32) (M : Mem) {L : List (Option Value)}, lsub [none, none, none, some (.int x3), some (.int x4), none, none, none, none, none] L → KF l { frames := 0, cells := 0, slots := 0, locals := 0 } 10 G ad (EC G ad MM) (QP PostI G ad (EC G ad MM)) X (f_X1_order_66 x3 x4 M) L 66 [] M := by
  intro x3 x4 M L hL
  unfold f_X1_order_66
  refine KF.locals (lsub_le hL) ?_
  refine k_iload_n hX (i := 3) rfl rfl dX1_order_66 ?_
  refine k_iload hX rfl dX1_order_67 ?_
  refine k_isub hX dX1_order_69 ?_
  exact k_iret hX dX1_order_70
set_option maxHeartbeats 4000000 in
set_option maxRecDepth 100000 in
theorem w_X1_order_260 {l : Launch} {G : GL} {ad : Nat → Nat} {MM : Mem} {X : CT} (hX : Cx l { frames := 0, cells := 0, slots := 0, locals := 0 } cX1_order RX1 10 (some .int) G ad X) : ∀ (x8 : Int32) (s0 : Int32) (M : Mem) {L : List (Option Value)}, lsub [none, none, none, none, none, none, none, none, some (.int x8), none] L → KF l { frames := 0, cells := 0, slots := 0, locals := 0 } 10 G ad (EC G ad MM) (QP PostI G ad (EC G ad MM)) X (f_X1_order_260 x8 s0 M) L 260 [.int s0] M := by
  intro x8 s0 M L hL
  unfold f_X1_order_260
  refine KF.locals (lsub_le hL) ?_
  refine k_istore (L' := [none, none, none, none, none, none, none, none, some (.int x8), some (.int s0)]) hX (by decide) rfl dX1_order_260 ?_
  refine k_iload hX rfl dX1_order_262 ?_
  refine k_iload hX rfl dX1_order_264 ?_
  refine k_isub hX dX1_order_266 ?_
  exact k_iret hX dX1_order_267
set_option maxHeartbeats 4000000 in
set_option maxRecDepth 100000 in
theorem w_X1_order_230 {l : Launch} {G : GL} {ad : Nat → Nat} {MM : Mem} {X : CT} (hX : Cx l { frames := 0, cells := 0, slots := 0, locals := 0 } cX1_order RX1 10 (some .int) G ad X) : ∀ (x4 : Int32) (x6 : Int32) (s0 : Int32) (M : Mem) {L : List (Option Value)}, lsub [some (.ref (ad 1)), none, none, none, some (.int x4), none, some (.int x6), none, none, none] L → KF l { frames := 0, cells := 0, slots := 0, locals := 0 } 10 G ad (EC G ad MM) (QP PostI G ad (EC G ad MM)) X (f_X1_order_230 x4 x6 s0 M) L 230 [.int s0] M := by
  intro x4 x6 s0 M L hL
  unfold f_X1_order_230
  refine KF.locals (lsub_le hL) ?_
  refine k_istore (L' := [some (.ref (ad 1)), none, none, none, some (.int x4), none, some (.int x6), none, some (.int s0), none]) hX (by decide) rfl dX1_order_230 ?_
  refine k_aload_n hX (i := 0) rfl rfl dX1_order_232 ?_
  refine k_get hX io_1 fl_X1_18 rfl dX1_order_233 ?_
  refine k_iload hX rfl dX1_order_236 ?_
  refine k_ald hX ia_4 dX1_order_238 (fun v1 => ?_)
  refine k_iload hX rfl dX1_order_239 ?_
  refine k_icmp_ne (tgt := 249) hX dX1_order_241 (by decide) (fun b2 => ?_) (fun b2 => ?_)
  · refine k_getsep hX sl_X1_71 dX1_order_249 ?_
    refine k_aload_n hX (i := 0) rfl rfl dX1_order_252 ?_
    refine k_get hX io_1 fl_X1_9 rfl dX1_order_253 ?_
    refine k_iload hX rfl dX1_order_256 ?_
    refine k_ald hX ia_2 dX1_order_258 (fun v3 => ?_)
    refine k_caldsep hX dX1_order_259 (fun v4 => ?_)
    exact w_X1_order_260 hX s0 v4 M ⟨rfl, trivial⟩
  refine k_bipush (v := (nI 41)) hX rfl dX1_order_244 ?_
  refine k_goto (tgt := 260) hX dX1_order_246 (by decide) ?_
  exact w_X1_order_260 hX s0 (nI 41) M ⟨rfl, trivial⟩
set_option maxHeartbeats 4000000 in
set_option maxRecDepth 100000 in
theorem w_X1_order_197 {l : Launch} {G : GL} {ad : Nat → Nat} {MM : Mem} {X : CT} (hX : Cx l { frames := 0, cells := 0, slots := 0, locals := 0 } cX1_order RX1 10 (some .int) G ad X) {k8 : Int32 → Int32 → Int32 → Mem → Option Rv} (hk8 : ∀ (x3 : Int32) (x4 : Int32) (x5 : Int32) (M : Mem) {L : List (Option Value)}, lsub [some (.ref (ad 1)), none, none, some (.int x3), some (.int x4), some (.int x5), none, none, none, none] L → KF l { frames := 0, cells := 0, slots := 0, locals := 0 } 10 G ad (EC G ad MM) (QP PostI G ad (EC G ad MM)) X (k8 x3 x4 x5 M) L 8 [] M) : ∀ (x3 : Int32) (x4 : Int32) (x5 : Int32) (x6 : Int32) (x7 : Int32) (M : Mem) {L : List (Option Value)}, lsub [some (.ref (ad 1)), none, none, some (.int x3), some (.int x4), some (.int x5), some (.int x6), some (.int x7), none, none] L → KF l { frames := 0, cells := 0, slots := 0, locals := 0 } 10 G ad (EC G ad MM) (QP PostI G ad (EC G ad MM)) X (f_X1_order_197 k8 x3 x4 x5 x6 x7 M) L 197 [] M := by
  intro x3 x4 x5 x6 x7 M L hL
  unfold f_X1_order_197
  refine KF.locals (lsub_le hL) ?_
  refine k_iload hX rfl dX1_order_197 ?_
  refine k_iload hX rfl dX1_order_199 ?_
  refine k_icmp_ne (tgt := 268) hX dX1_order_201 (by decide) (fun b1 => ?_) (fun b1 => ?_)
  · refine k_aload_n hX (i := 0) rfl rfl dX1_order_268 ?_
    refine k_get hX io_1 fl_X1_35 rfl dX1_order_269 ?_
    refine k_aload_n hX (i := 0) rfl rfl dX1_order_272 ?_
    refine k_get hX io_1 fl_X1_15 rfl dX1_order_273 ?_
    refine k_iload_n hX (i := 3) rfl rfl dX1_order_276 ?_
    refine k_ald hX ia_3 dX1_order_277 (fun v2 => ?_)
    refine k_iload hX rfl dX1_order_278 ?_
    refine k_iadd hX dX1_order_280 ?_
    refine k_ald hX ia_9 dX1_order_281 (fun v3 => ?_)
    refine k_istore_n (L' := [some (.ref (ad 1)), none, none, some (.int v3), some (.int x4), some (.int x5), some (.int x6), some (.int x7), none, none]) hX (i := 3) rfl (by decide) rfl dX1_order_282 ?_
    refine k_aload_n hX (i := 0) rfl rfl dX1_order_283 ?_
    refine k_get hX io_1 fl_X1_35 rfl dX1_order_284 ?_
    refine k_aload_n hX (i := 0) rfl rfl dX1_order_287 ?_
    refine k_get hX io_1 fl_X1_15 rfl dX1_order_288 ?_
    refine k_iload hX rfl dX1_order_291 ?_
    refine k_ald hX ia_3 dX1_order_293 (fun v4 => ?_)
    refine k_iload hX rfl dX1_order_294 ?_
    refine k_iadd hX dX1_order_296 ?_
    refine k_ald hX ia_9 dX1_order_297 (fun v5 => ?_)
    refine k_istore (L' := [some (.ref (ad 1)), none, none, some (.int v3), some (.int v5), some (.int x5), some (.int x6), some (.int x7), none, none]) hX (by decide) rfl dX1_order_298 ?_
    refine k_iinc (v := x5 + nI 1) (L' := [some (.ref (ad 1)), none, none, some (.int v3), some (.int v5), some (.int (x5 + nI 1)), some (.int x6), some (.int x7), none, none]) hX (i := 5) rfl rfl (by decide) rfl dX1_order_300 ?_
    refine k_goto (tgt := 8) hX dX1_order_303 (by decide) ?_
    exact hk8 v3 v5 (x5 + nI 1) M ⟨rfl, rfl, rfl, rfl, trivial⟩
  refine k_aload_n hX (i := 0) rfl rfl dX1_order_204 ?_
  refine k_get hX io_1 fl_X1_18 rfl dX1_order_205 ?_
  refine k_iload_n hX (i := 3) rfl rfl dX1_order_208 ?_
  refine k_ald hX ia_4 dX1_order_209 (fun v6 => ?_)
  refine k_iload hX rfl dX1_order_210 ?_
  refine k_icmp_ne (tgt := 220) hX dX1_order_212 (by decide) (fun b7 => ?_) (fun b7 => ?_)
  · refine k_getsep hX sl_X1_71 dX1_order_220 ?_
    refine k_aload_n hX (i := 0) rfl rfl dX1_order_223 ?_
    refine k_get hX io_1 fl_X1_9 rfl dX1_order_224 ?_
    refine k_iload_n hX (i := 3) rfl rfl dX1_order_227 ?_
    refine k_ald hX ia_2 dX1_order_228 (fun v8 => ?_)
    refine k_caldsep hX dX1_order_229 (fun v9 => ?_)
    exact w_X1_order_230 hX x4 x6 v9 M ⟨rfl, rfl, rfl, trivial⟩
  refine k_bipush (v := (nI 41)) hX rfl dX1_order_215 ?_
  refine k_goto (tgt := 230) hX dX1_order_217 (by decide) ?_
  exact w_X1_order_230 hX x4 x6 (nI 41) M ⟨rfl, rfl, rfl, trivial⟩
set_option maxHeartbeats 4000000 in
set_option maxRecDepth 100000 in
theorem w_X1_order_153 {l : Launch} {G : GL} {ad : Nat → Nat} {MM : Mem} {X : CT} (hX : Cx l { frames := 0, cells := 0, slots := 0, locals := 0 } cX1_order RX1 10 (some .int) G ad X) {k8 : Int32 → Int32 → Int32 → Mem → Option Rv} (hk8 : ∀ (x3 : Int32) (x4 : Int32) (x5 : Int32) (M : Mem) {L : List (Option Value)}, lsub [some (.ref (ad 1)), none, none, some (.int x3), some (.int x4), some (.int x5), none, none, none, none] L → KF l { frames := 0, cells := 0, slots := 0, locals := 0 } 10 G ad (EC G ad MM) (QP PostI G ad (EC G ad MM)) X (k8 x3 x4 x5 M) L 8 [] M) : ∀ (x3 : Int32) (x4 : Int32) (x5 : Int32) (x6 : Int32) (x7 : Int32) (M : Mem) {L : List (Option Value)}, lsub [some (.ref (ad 1)), none, none, some (.int x3), some (.int x4), some (.int x5), some (.int x6), some (.int x7), none, none] L → KF l { frames := 0, cells := 0, slots := 0, locals := 0 } 10 G ad (EC G ad MM) (QP PostI G ad (EC G ad MM)) X (f_X1_order_153 k8 x3 x4 x5 x6 x7 M) L 153 [] M := by
  intro x3 x4 x5 x6 x7 M L hL
  unfold f_X1_order_153
  refine KF.locals (lsub_le hL) ?_
  refine k_iload hX rfl dX1_order_153 ?_
  refine k_if_le (tgt := 197) hX dX1_order_155 (by decide) (fun b1 => ?_) (fun b1 => ?_)
  · exact w_X1_order_197 hX hk8 x3 x4 x5 x6 x7 M ⟨rfl, rfl, rfl, rfl, rfl, rfl, trivial⟩
  refine k_aload_n hX (i := 0) rfl rfl dX1_order_158 ?_
  refine k_get hX io_1 fl_X1_9 rfl dX1_order_159 ?_
  refine k_iload_n hX (i := 3) rfl rfl dX1_order_162 ?_
  refine k_ald hX ia_2 dX1_order_163 (fun v2 => ?_)
  refine k_aload_n hX (i := 0) rfl rfl dX1_order_164 ?_
  refine k_get hX io_1 fl_X1_9 rfl dX1_order_165 ?_
  refine k_iload hX rfl dX1_order_168 ?_
  refine k_ald hX ia_2 dX1_order_170 (fun v3 => ?_)
  refine k_icmp_eq (tgt := 197) hX dX1_order_171 (by decide) (fun b4 => ?_) (fun b4 => ?_)
  · exact w_X1_order_197 hX hk8 x3 x4 x5 x6 x7 M ⟨rfl, rfl, rfl, rfl, rfl, rfl, trivial⟩
  refine k_getsep hX sl_X1_71 dX1_order_174 ?_
  refine k_aload_n hX (i := 0) rfl rfl dX1_order_177 ?_
  refine k_get hX io_1 fl_X1_9 rfl dX1_order_178 ?_
  refine k_iload_n hX (i := 3) rfl rfl dX1_order_181 ?_
  refine k_ald hX ia_2 dX1_order_182 (fun v5 => ?_)
  refine k_caldsep hX dX1_order_183 (fun v6 => ?_)
  refine k_getsep hX sl_X1_71 dX1_order_184 ?_
  refine k_aload_n hX (i := 0) rfl rfl dX1_order_187 ?_
  refine k_get hX io_1 fl_X1_9 rfl dX1_order_188 ?_
  refine k_iload hX rfl dX1_order_191 ?_
  refine k_ald hX ia_2 dX1_order_193 (fun v7 => ?_)
  refine k_caldsep hX dX1_order_194 (fun v8 => ?_)
  refine k_isub hX dX1_order_195 ?_
  exact k_iret hX dX1_order_196
set_option maxHeartbeats 4000000 in
set_option maxRecDepth 100000 in
theorem w_X1_order_108 {l : Launch} {G : GL} {ad : Nat → Nat} {MM : Mem} {X : CT} (hX : Cx l { frames := 0, cells := 0, slots := 0, locals := 0 } cX1_order RX1 10 (some .int) G ad X) {k8 : Int32 → Int32 → Int32 → Mem → Option Rv} (hk8 : ∀ (x3 : Int32) (x4 : Int32) (x5 : Int32) (M : Mem) {L : List (Option Value)}, lsub [some (.ref (ad 1)), none, none, some (.int x3), some (.int x4), some (.int x5), none, none, none, none] L → KF l { frames := 0, cells := 0, slots := 0, locals := 0 } 10 G ad (EC G ad MM) (QP PostI G ad (EC G ad MM)) X (k8 x3 x4 x5 M) L 8 [] M) : ∀ (n : Nat), ∀ (x3 : Int32) (x4 : Int32) (x5 : Int32) (x6 : Int32) (x7 : Int32) (M : Mem) {L : List (Option Value)}, lsub [some (.ref (ad 1)), none, none, some (.int x3), some (.int x4), some (.int x5), some (.int x6), some (.int x7), none, none] L → KF l { frames := 0, cells := 0, slots := 0, locals := 0 } 10 G ad (EC G ad MM) (QP PostI G ad (EC G ad MM)) X (f_X1_order_108 k8 n x3 x4 x5 x6 x7 M) L 108 [] M := by
  intro n
  induction n with
  | zero =>
    intro x3 x4 x5 x6 x7 M L hL
    exact KF.none'
  | succ n ih =>
    intro x3 x4 x5 x6 x7 M L hL
    rw [f_X1_order_108]
    refine KF.locals (lsub_le hL) ?_
    refine k_iload hX rfl dX1_order_108 ?_
    refine k_iload hX rfl dX1_order_110 ?_
    refine k_icmp_ge (tgt := 153) hX dX1_order_112 (by decide) (fun b1 => ?_) (fun b1 => ?_)
    · exact w_X1_order_153 hX hk8 x3 x4 x5 x6 x7 M ⟨rfl, rfl, rfl, rfl, rfl, rfl, trivial⟩
    refine k_aload_n hX (i := 0) rfl rfl dX1_order_115 ?_
    refine k_get hX io_1 fl_X1_35 rfl dX1_order_116 ?_
    refine k_aload_n hX (i := 0) rfl rfl dX1_order_119 ?_
    refine k_get hX io_1 fl_X1_15 rfl dX1_order_120 ?_
    refine k_iload_n hX (i := 3) rfl rfl dX1_order_123 ?_
    refine k_ald hX ia_3 dX1_order_124 (fun v2 => ?_)
    refine k_iload hX rfl dX1_order_125 ?_
    refine k_iadd hX dX1_order_127 ?_
    refine k_ald hX ia_9 dX1_order_128 (fun v3 => ?_)
    refine k_aload_n hX (i := 0) rfl rfl dX1_order_129 ?_
    refine k_get hX io_1 fl_X1_35 rfl dX1_order_130 ?_
    refine k_aload_n hX (i := 0) rfl rfl dX1_order_133 ?_
    refine k_get hX io_1 fl_X1_15 rfl dX1_order_134 ?_
    refine k_iload hX rfl dX1_order_137 ?_
    refine k_ald hX ia_3 dX1_order_139 (fun v4 => ?_)
    refine k_iload hX rfl dX1_order_140 ?_
    refine k_iadd hX dX1_order_142 ?_
    refine k_ald hX ia_9 dX1_order_143 (fun v5 => ?_)
    refine k_icmp_ne (tgt := 153) hX dX1_order_144 (by decide) (fun b6 => ?_) (fun b6 => ?_)
    · exact w_X1_order_153 hX hk8 x3 x4 x5 x6 x7 M ⟨rfl, rfl, rfl, rfl, rfl, rfl, trivial⟩
    refine k_iinc (v := x7 + nI 1) (L' := [some (.ref (ad 1)), none, none, some (.int x3), some (.int x4), some (.int x5), some (.int x6), some (.int (x7 + nI 1)), none, none]) hX (i := 7) rfl rfl (by decide) rfl dX1_order_147 ?_
    refine k_goto (tgt := 108) hX dX1_order_150 (by decide) ?_
    exact ih x3 x4 x5 x6 (x7 + nI 1) M ⟨rfl, rfl, rfl, rfl, rfl, rfl, trivial⟩
set_option maxHeartbeats 4000000 in
set_option maxRecDepth 100000 in
theorem w_X1_order_103 {l : Launch} {G : GL} {ad : Nat → Nat} {MM : Mem} {X : CT} (hX : Cx l { frames := 0, cells := 0, slots := 0, locals := 0 } cX1_order RX1 10 (some .int) G ad X) {k8 : Int32 → Int32 → Int32 → Mem → Option Rv} (hk8 : ∀ (x3 : Int32) (x4 : Int32) (x5 : Int32) (M : Mem) {L : List (Option Value)}, lsub [some (.ref (ad 1)), none, none, some (.int x3), some (.int x4), some (.int x5), none, none, none, none] L → KF l { frames := 0, cells := 0, slots := 0, locals := 0 } 10 G ad (EC G ad MM) (QP PostI G ad (EC G ad MM)) X (k8 x3 x4 x5 M) L 8 [] M) : ∀ (x3 : Int32) (x4 : Int32) (x5 : Int32) (s0 : Int32) (M : Mem) {L : List (Option Value)}, lsub [some (.ref (ad 1)), none, none, some (.int x3), some (.int x4), some (.int x5), none, none, none, none] L → KF l { frames := 0, cells := 0, slots := 0, locals := 0 } 10 G ad (EC G ad MM) (QP PostI G ad (EC G ad MM)) X (f_X1_order_103 k8 x3 x4 x5 s0 M) L 103 [.int s0] M := by
  intro x3 x4 x5 s0 M L hL
  unfold f_X1_order_103
  refine KF.locals (lsub_le hL) ?_
  refine k_istore (L' := [some (.ref (ad 1)), none, none, some (.int x3), some (.int x4), some (.int x5), some (.int s0), none, none, none]) hX (by decide) rfl dX1_order_103 ?_
  refine k_iconst (v := (nI 0)) hX rfl dX1_order_105 ?_
  refine k_istore (L' := [some (.ref (ad 1)), none, none, some (.int x3), some (.int x4), some (.int x5), some (.int s0), some (.int (nI 0)), none, none]) hX (by decide) rfl dX1_order_106 ?_
  exact w_X1_order_108 hX hk8 fuelN x3 x4 x5 s0 (nI 0) M ⟨rfl, rfl, rfl, rfl, rfl, rfl, trivial⟩
set_option maxHeartbeats 4000000 in
set_option maxRecDepth 100000 in
theorem w_X1_order_306 {l : Launch} {G : GL} {ad : Nat → Nat} {MM : Mem} {X : CT} (hX : Cx l { frames := 0, cells := 0, slots := 0, locals := 0 } cX1_order RX1 10 (some .int) G ad X) : ∀ (M : Mem) {L : List (Option Value)}, lsub [none, none, none, none, none, none, none, none, none, none] L → KF l { frames := 0, cells := 0, slots := 0, locals := 0 } 10 G ad (EC G ad MM) (QP PostI G ad (EC G ad MM)) X (f_X1_order_306 M) L 306 [] M := by
  intro M L hL
  unfold f_X1_order_306
  refine KF.locals (lsub_le hL) ?_
  refine k_iconst (v := (nI 0)) hX rfl dX1_order_306 ?_
  exact k_iret hX dX1_order_307
set_option maxHeartbeats 4000000 in
set_option maxRecDepth 100000 in
theorem w_X1_order_8 {l : Launch} {G : GL} {ad : Nat → Nat} {MM : Mem} {X : CT} (hX : Cx l { frames := 0, cells := 0, slots := 0, locals := 0 } cX1_order RX1 10 (some .int) G ad X) : ∀ (n : Nat), ∀ (x3 : Int32) (x4 : Int32) (x5 : Int32) (M : Mem) {L : List (Option Value)}, lsub [some (.ref (ad 1)), none, none, some (.int x3), some (.int x4), some (.int x5), none, none, none, none] L → KF l { frames := 0, cells := 0, slots := 0, locals := 0 } 10 G ad (EC G ad MM) (QP PostI G ad (EC G ad MM)) X (f_X1_order_8 n x3 x4 x5 M) L 8 [] M := by
  intro n
  induction n with
  | zero =>
    intro x3 x4 x5 M L hL
    exact KF.none'
  | succ n ih =>
    intro x3 x4 x5 M L hL
    rw [f_X1_order_8]
    refine KF.locals (lsub_le hL) ?_
    refine k_iload hX rfl dX1_order_8 ?_
    refine k_sipush (v := (nI 2048)) hX rfl dX1_order_10 ?_
    refine k_icmp_ge (tgt := 306) hX dX1_order_13 (by decide) (fun b1 => ?_) (fun b1 => ?_)
    · exact w_X1_order_306 hX M trivial
    refine k_iload_n hX (i := 3) rfl rfl dX1_order_16 ?_
    refine k_iload hX rfl dX1_order_17 ?_
    refine k_icmp_eq (tgt := 306) hX dX1_order_19 (by decide) (fun b2 => ?_) (fun b2 => ?_)
    · exact w_X1_order_306 hX M trivial
    refine k_aload_n hX (i := 0) rfl rfl dX1_order_22 ?_
    refine k_get hX io_1 fl_X1_31 rfl dX1_order_23 ?_
    refine k_iload_n hX (i := 3) rfl rfl dX1_order_26 ?_
    refine k_cald hX ia_8 dX1_order_27 (fun v3 => ?_)
    refine k_aload_n hX (i := 0) rfl rfl dX1_order_28 ?_
    refine k_get hX io_1 fl_X1_31 rfl dX1_order_29 ?_
    refine k_iload hX rfl dX1_order_32 ?_
    refine k_cald hX ia_8 dX1_order_34 (fun v4 => ?_)
    refine k_icmp_eq (tgt := 53) hX dX1_order_35 (by decide) (fun b5 => ?_) (fun b5 => ?_)
    · refine k_iload_n hX (i := 3) rfl rfl dX1_order_53 ?_
      refine k_bipush (v := (nI 16)) hX rfl dX1_order_54 ?_
      refine k_icmp_lt (tgt := 66) hX dX1_order_56 (by decide) (fun b6 => ?_) (fun b6 => ?_)
      · exact w_X1_order_66 hX x3 x4 M ⟨rfl, rfl, trivial⟩
      refine k_iload hX rfl dX1_order_59 ?_
      refine k_bipush (v := (nI 16)) hX rfl dX1_order_61 ?_
      refine k_icmp_ge (tgt := 71) hX dX1_order_63 (by decide) (fun b7 => ?_) (fun b7 => ?_)
      · refine k_aload_n hX (i := 0) rfl rfl dX1_order_71 ?_
        refine k_get hX io_1 fl_X1_18 rfl dX1_order_72 ?_
        refine k_iload_n hX (i := 3) rfl rfl dX1_order_75 ?_
        refine k_ald hX ia_4 dX1_order_76 (fun v8 => ?_)
        refine k_aload_n hX (i := 0) rfl rfl dX1_order_77 ?_
        refine k_get hX io_1 fl_X1_18 rfl dX1_order_78 ?_
        refine k_iload hX rfl dX1_order_81 ?_
        refine k_ald hX ia_4 dX1_order_83 (fun v9 => ?_)
        refine k_icmp_ge (tgt := 96) hX dX1_order_84 (by decide) (fun b10 => ?_) (fun b10 => ?_)
        · refine k_aload_n hX (i := 0) rfl rfl dX1_order_96 ?_
          refine k_get hX io_1 fl_X1_18 rfl dX1_order_97 ?_
          refine k_iload hX rfl dX1_order_100 ?_
          refine k_ald hX ia_4 dX1_order_102 (fun v11 => ?_)
          exact w_X1_order_103 hX ih x3 x4 x5 v11 M ⟨rfl, rfl, rfl, rfl, trivial⟩
        refine k_aload_n hX (i := 0) rfl rfl dX1_order_87 ?_
        refine k_get hX io_1 fl_X1_18 rfl dX1_order_88 ?_
        refine k_iload_n hX (i := 3) rfl rfl dX1_order_91 ?_
        refine k_ald hX ia_4 dX1_order_92 (fun v12 => ?_)
        refine k_goto (tgt := 103) hX dX1_order_93 (by decide) ?_
        exact w_X1_order_103 hX ih x3 x4 x5 v12 M ⟨rfl, rfl, rfl, rfl, trivial⟩
      exact w_X1_order_66 hX x3 x4 M ⟨rfl, rfl, trivial⟩
    refine k_aload_n hX (i := 0) rfl rfl dX1_order_38 ?_
    refine k_get hX io_1 fl_X1_31 rfl dX1_order_39 ?_
    refine k_iload_n hX (i := 3) rfl rfl dX1_order_42 ?_
    refine k_cald hX ia_8 dX1_order_43 (fun v13 => ?_)
    refine k_aload_n hX (i := 0) rfl rfl dX1_order_44 ?_
    refine k_get hX io_1 fl_X1_31 rfl dX1_order_45 ?_
    refine k_iload hX rfl dX1_order_48 ?_
    refine k_cald hX ia_8 dX1_order_50 (fun v14 => ?_)
    refine k_isub hX dX1_order_51 ?_
    exact k_iret hX dX1_order_52
set_option maxHeartbeats 4000000 in
set_option maxRecDepth 100000 in
theorem w_X1_order {l : Launch} {G : GL} {ad : Nat → Nat} {MM : Mem} {X : CT} (hX : Cx l { frames := 0, cells := 0, slots := 0, locals := 0 } cX1_order RX1 10 (some .int) G ad X) {p1 : Int32} {p2 : Int32} {M : Mem} : KF l { frames := 0, cells := 0, slots := 0, locals := 0 } 10 G ad (EC G ad MM) (QP PostI G ad (EC G ad MM)) X (f_X1_order p1 p2 M) [some (.ref (ad 1)), some (.int p1), some (.int p2), none, none, none, none, none, none, none] 0 [] M := by
  unfold f_X1_order
  refine k_iload_n hX (i := 1) rfl rfl dX1_order_0 ?_
  refine k_istore_n (L' := [some (.ref (ad 1)), some (.int p1), some (.int p2), some (.int p1), none, none, none, none, none, none]) hX (i := 3) rfl (by decide) rfl dX1_order_1 ?_
  refine k_iload_n hX (i := 2) rfl rfl dX1_order_2 ?_
  refine k_istore (L' := [some (.ref (ad 1)), some (.int p1), some (.int p2), some (.int p1), some (.int p2), none, none, none, none, none]) hX (by decide) rfl dX1_order_3 ?_
  refine k_iconst (v := (nI 0)) hX rfl dX1_order_5 ?_
  refine k_istore (L' := [some (.ref (ad 1)), some (.int p1), some (.int p2), some (.int p1), some (.int p2), some (.int (nI 0)), none, none, none, none]) hX (by decide) rfl dX1_order_6 ?_
  exact w_X1_order_8 hX fuelN p1 p2 (nI 0) M ⟨rfl, rfl, rfl, rfl, trivial⟩
set_option maxRecDepth 100000 in
theorem m_X1_order {l : Launch} {G : GL} {ad : Nat → Nat} {MM : Mem} (hAd : AdOK G ad) {p1 : Int32} {p2 : Int32} {M : Mem} {r : Rv} (h : f_X1_order p1 p2 M = some r) : Ct PostI l G ad (EC G ad MM) yX1_order cX1_order 10 (some .int) 0 0 [.ref (ad 1), .int p1, .int p2] M r := ct_of' hAd (by decide +kernel) (List.forall_mem_cons.mpr ⟨rfl, (List.forall_mem_cons.mpr ⟨rfl, (List.forall_mem_cons.mpr ⟨rfl, (fun _ h => absurd h List.not_mem_nil)⟩)⟩)⟩) (Nat.le_of_ble_eq_true rfl) (L := [some (.ref (ad 1)), some (.int p1), some (.int p2), none, none, none, none, none, none, none]) rfl (fun _ hX => w_X1_order hX) h
set_option maxHeartbeats 4000000 in
set_option maxRecDepth 100000 in
theorem w_X0_put_220 {l : Launch} {G : GL} {ad : Nat → Nat} {MM : Mem} {X : CT} (hX : Cx l { frames := 1, cells := 0, slots := 0, locals := 29 } cX0_put RX0 8 none G ad X) {k43 : Int32 → Int32 → Int32 → Int32 → Mem → Option Rv} (hk43 : ∀ (x1 : Int32) (x2 : Int32) (x3 : Int32) (x4 : Int32) (M : Mem) {L : List (Option Value)}, lsub [some (.ref (ad 13)), some (.int x1), some (.int x2), some (.int x3), some (.int x4), none, none, none] L → KF l { frames := 1, cells := 0, slots := 0, locals := 29 } 8 G ad (EC G ad MM) (QP PostV G ad (EC G ad MM)) X (k43 x1 x2 x3 x4 M) L 43 [] M) : ∀ (x1 : Int32) (x2 : Int32) (x3 : Int32) (x4 : Int32) (M : Mem) {L : List (Option Value)}, lsub [some (.ref (ad 13)), some (.int x1), some (.int x2), some (.int x3), some (.int x4), none, none, none] L → KF l { frames := 1, cells := 0, slots := 0, locals := 29 } 8 G ad (EC G ad MM) (QP PostV G ad (EC G ad MM)) X (f_X0_put_220 k43 x1 x2 x3 x4 M) L 220 [] M := by
  intro x1 x2 x3 x4 M L hL
  unfold f_X0_put_220
  refine KF.locals (lsub_le hL) ?_
  refine k_iinc (v := x4 + nI 1) (L' := [some (.ref (ad 13)), some (.int x1), some (.int x2), some (.int x3), some (.int (x4 + nI 1)), none, none, none]) hX (i := 4) rfl rfl (by decide) rfl dX0_put_220 ?_
  refine k_goto (tgt := 43) hX dX0_put_223 (by decide) ?_
  exact hk43 x1 x2 x3 (x4 + nI 1) M ⟨rfl, rfl, rfl, rfl, rfl, trivial⟩
set_option maxHeartbeats 4000000 in
set_option maxRecDepth 100000 in
theorem w_X0_put_151 {l : Launch} {G : GL} {ad : Nat → Nat} {MM : Mem} {X : CT} (hX : Cx l { frames := 1, cells := 0, slots := 0, locals := 29 } cX0_put RX0 8 none G ad X) {k43 : Int32 → Int32 → Int32 → Int32 → Mem → Option Rv} (hk43 : ∀ (x1 : Int32) (x2 : Int32) (x3 : Int32) (x4 : Int32) (M : Mem) {L : List (Option Value)}, lsub [some (.ref (ad 13)), some (.int x1), some (.int x2), some (.int x3), some (.int x4), none, none, none] L → KF l { frames := 1, cells := 0, slots := 0, locals := 29 } 8 G ad (EC G ad MM) (QP PostV G ad (EC G ad MM)) X (k43 x1 x2 x3 x4 M) L 43 [] M) : ∀ (x1 : Int32) (x2 : Int32) (x3 : Int32) (x4 : Int32) (x5 : Int32) (x6 : Int32) (s0 : Int32) (M : Mem) {L : List (Option Value)}, lsub [some (.ref (ad 13)), some (.int x1), some (.int x2), some (.int x3), some (.int x4), some (.int x5), some (.int x6), none] L → KF l { frames := 1, cells := 0, slots := 0, locals := 29 } 8 G ad (EC G ad MM) (QP PostV G ad (EC G ad MM)) X (f_X0_put_151 k43 x1 x2 x3 x4 x5 x6 s0 M) L 151 [.int s0] M := by
  intro x1 x2 x3 x4 x5 x6 s0 M L hL
  unfold f_X0_put_151
  refine KF.locals (lsub_le hL) ?_
  refine k_istore (L' := [some (.ref (ad 13)), some (.int x1), some (.int x2), some (.int x3), some (.int x4), some (.int x5), some (.int x6), some (.int s0)]) hX (by decide) rfl dX0_put_151 ?_
  refine k_iload hX rfl dX0_put_153 ?_
  refine k_if_ne (tgt := 220) hX dX0_put_155 (by decide) (fun b1 => ?_) (fun b1 => ?_)
  · exact w_X0_put_220 hX hk43 x1 x2 x3 x4 M ⟨rfl, rfl, rfl, rfl, rfl, trivial⟩
  refine k_iload hX rfl dX0_put_158 ?_
  refine k_aload_n hX (i := 0) rfl rfl dX0_put_160 ?_
  refine k_callVI (vs := []) hX (fun _ h9 => m_X0_neutral hX.2.2.2.2.2.2.1  h9) io_13 rfl ml_X0_50 ⟨Nat.le_of_ble_eq_true rfl, Nat.le_of_ble_eq_true rfl⟩ rfl rfl (Nat.le_of_ble_eq_true rfl) dX0_put_161 (fun q2 => ?_)
  refine k_icmp_eq (tgt := 220) hX dX0_put_164 (by decide) (fun b3 => ?_) (fun b3 => ?_)
  · exact w_X0_put_220 hX hk43 x1 x2 x3 x4 q2.2 ⟨rfl, rfl, rfl, rfl, rfl, trivial⟩
  refine k_aload_n hX (i := 0) rfl rfl dX0_put_167 ?_
  refine k_get hX io_13 fl_X0_29 rfl dX0_put_168 ?_
  refine k_sipush (v := (nI 2048)) hX rfl dX0_put_171 ?_
  refine k_icmp_ge (tgt := 220) hX dX0_put_174 (by decide) (fun b4 => ?_) (fun b4 => ?_)
  · exact w_X0_put_220 hX hk43 x1 x2 x3 x4 q2.2 ⟨rfl, rfl, rfl, rfl, rfl, trivial⟩
  refine k_aload_n hX (i := 0) rfl rfl dX0_put_177 ?_
  refine k_get hX io_13 fl_X0_15 rfl dX0_put_178 ?_
  refine k_iload hX rfl dX0_put_181 ?_
  refine k_aload_n hX (i := 0) rfl rfl dX0_put_183 ?_
  refine k_get hX io_13 fl_X0_15 rfl dX0_put_184 ?_
  refine k_iload hX rfl dX0_put_187 ?_
  refine k_iconst (v := (nI 1)) hX rfl dX0_put_189 ?_
  refine k_iadd hX dX0_put_190 ?_
  refine k_aload_n hX (i := 0) rfl rfl dX0_put_191 ?_
  refine k_get hX io_13 fl_X0_29 rfl dX0_put_192 ?_
  refine k_iload hX rfl dX0_put_195 ?_
  refine k_isub hX dX0_put_197 ?_
  refine k_copy hX locC ia_15 ia_15 w_ac_X0 w_acn w_acs w_aci (Nat.le_of_ble_eq_true rfl) (Nat.le_of_ble_eq_true rfl) dX0_put_198 (fun M5 => ?_)
  refine k_aload_n hX (i := 0) rfl rfl dX0_put_201 ?_
  refine k_get hX io_13 fl_X0_15 rfl dX0_put_202 ?_
  refine k_iload hX rfl dX0_put_205 ?_
  refine k_iload hX rfl dX0_put_207 ?_
  refine k_ast hX locC ia_15 dX0_put_209 (fun M6 => ?_)
  refine k_aload_n hX (i := 0) rfl rfl dX0_put_210 ?_
  refine k_dup hX rfl dX0_put_211 ?_
  refine k_get hX io_13 fl_X0_29 rfl dX0_put_212 ?_
  refine k_iconst (v := (nI 1)) hX rfl dX0_put_215 ?_
  refine k_iadd hX dX0_put_216 ?_
  refine k_puti hX locC io_13 fp_X0_29 (Nat.le_of_ble_eq_true rfl) rfl dX0_put_217 (fun M7 => ?_)
  exact w_X0_put_220 hX hk43 x1 x2 x3 x4 M7 ⟨rfl, rfl, rfl, rfl, rfl, trivial⟩
set_option maxHeartbeats 4000000 in
set_option maxRecDepth 100000 in
theorem w_X0_put_150 {l : Launch} {G : GL} {ad : Nat → Nat} {MM : Mem} {X : CT} (hX : Cx l { frames := 1, cells := 0, slots := 0, locals := 29 } cX0_put RX0 8 none G ad X) {k43 : Int32 → Int32 → Int32 → Int32 → Mem → Option Rv} (hk43 : ∀ (x1 : Int32) (x2 : Int32) (x3 : Int32) (x4 : Int32) (M : Mem) {L : List (Option Value)}, lsub [some (.ref (ad 13)), some (.int x1), some (.int x2), some (.int x3), some (.int x4), none, none, none] L → KF l { frames := 1, cells := 0, slots := 0, locals := 29 } 8 G ad (EC G ad MM) (QP PostV G ad (EC G ad MM)) X (k43 x1 x2 x3 x4 M) L 43 [] M) : ∀ (x1 : Int32) (x2 : Int32) (x3 : Int32) (x4 : Int32) (x5 : Int32) (x6 : Int32) (M : Mem) {L : List (Option Value)}, lsub [some (.ref (ad 13)), some (.int x1), some (.int x2), some (.int x3), some (.int x4), some (.int x5), some (.int x6), none] L → KF l { frames := 1, cells := 0, slots := 0, locals := 29 } 8 G ad (EC G ad MM) (QP PostV G ad (EC G ad MM)) X (f_X0_put_150 k43 x1 x2 x3 x4 x5 x6 M) L 150 [] M := by
  intro x1 x2 x3 x4 x5 x6 M L hL
  unfold f_X0_put_150
  refine KF.locals (lsub_le hL) ?_
  refine k_iconst (v := (nI 0)) hX rfl dX0_put_150 ?_
  exact w_X0_put_151 hX hk43 x1 x2 x3 x4 x5 x6 (nI 0) M ⟨rfl, rfl, rfl, rfl, rfl, rfl, rfl, trivial⟩
set_option maxHeartbeats 4000000 in
set_option maxRecDepth 100000 in
theorem w_X0_put_127 {l : Launch} {G : GL} {ad : Nat → Nat} {MM : Mem} {X : CT} (hX : Cx l { frames := 1, cells := 0, slots := 0, locals := 29 } cX0_put RX0 8 none G ad X) {k43 : Int32 → Int32 → Int32 → Int32 → Mem → Option Rv} (hk43 : ∀ (x1 : Int32) (x2 : Int32) (x3 : Int32) (x4 : Int32) (M : Mem) {L : List (Option Value)}, lsub [some (.ref (ad 13)), some (.int x1), some (.int x2), some (.int x3), some (.int x4), none, none, none] L → KF l { frames := 1, cells := 0, slots := 0, locals := 29 } 8 G ad (EC G ad MM) (QP PostV G ad (EC G ad MM)) X (k43 x1 x2 x3 x4 M) L 43 [] M) : ∀ (x1 : Int32) (x2 : Int32) (x3 : Int32) (x4 : Int32) (x5 : Int32) (x6 : Int32) (M : Mem) {L : List (Option Value)}, lsub [some (.ref (ad 13)), some (.int x1), some (.int x2), some (.int x3), some (.int x4), some (.int x5), some (.int x6), none] L → KF l { frames := 1, cells := 0, slots := 0, locals := 29 } 8 G ad (EC G ad MM) (QP PostV G ad (EC G ad MM)) X (f_X0_put_127 k43 x1 x2 x3 x4 x5 x6 M) L 127 [] M := by
  intro x1 x2 x3 x4 x5 x6 M L hL
  unfold f_X0_put_127
  refine KF.locals (lsub_le hL) ?_
  refine k_iload hX rfl dX0_put_127 ?_
  refine k_if_le (tgt := 150) hX dX0_put_129 (by decide) (fun b1 => ?_) (fun b1 => ?_)
  · exact w_X0_put_150 hX hk43 x1 x2 x3 x4 x5 x6 M ⟨rfl, rfl, rfl, rfl, rfl, rfl, rfl, trivial⟩
  refine k_aload_n hX (i := 0) rfl rfl dX0_put_132 ?_
  refine k_get hX io_13 fl_X0_15 rfl dX0_put_133 ?_
  refine k_iload hX rfl dX0_put_136 ?_
  refine k_iconst (v := (nI 1)) hX rfl dX0_put_138 ?_
  refine k_isub hX dX0_put_139 ?_
  refine k_ald hX ia_15 dX0_put_140 (fun v2 => ?_)
  refine k_iload hX rfl dX0_put_141 ?_
  refine k_icmp_ne (tgt := 150) hX dX0_put_143 (by decide) (fun b3 => ?_) (fun b3 => ?_)
  · exact w_X0_put_150 hX hk43 x1 x2 x3 x4 x5 x6 M ⟨rfl, rfl, rfl, rfl, rfl, rfl, rfl, trivial⟩
  refine k_iconst (v := (nI 1)) hX rfl dX0_put_146 ?_
  refine k_goto (tgt := 151) hX dX0_put_147 (by decide) ?_
  exact w_X0_put_151 hX hk43 x1 x2 x3 x4 x5 x6 (nI 1) M ⟨rfl, rfl, rfl, rfl, rfl, rfl, rfl, trivial⟩
set_option maxHeartbeats 4000000 in
set_option maxRecDepth 100000 in
theorem w_X0_put_95 {l : Launch} {G : GL} {ad : Nat → Nat} {MM : Mem} {X : CT} (hX : Cx l { frames := 1, cells := 0, slots := 0, locals := 29 } cX0_put RX0 8 none G ad X) {k43 : Int32 → Int32 → Int32 → Int32 → Mem → Option Rv} (hk43 : ∀ (x1 : Int32) (x2 : Int32) (x3 : Int32) (x4 : Int32) (M : Mem) {L : List (Option Value)}, lsub [some (.ref (ad 13)), some (.int x1), some (.int x2), some (.int x3), some (.int x4), none, none, none] L → KF l { frames := 1, cells := 0, slots := 0, locals := 29 } 8 G ad (EC G ad MM) (QP PostV G ad (EC G ad MM)) X (k43 x1 x2 x3 x4 M) L 43 [] M) : ∀ (n : Nat), ∀ (x1 : Int32) (x2 : Int32) (x3 : Int32) (x4 : Int32) (x5 : Int32) (x6 : Int32) (M : Mem) {L : List (Option Value)}, lsub [some (.ref (ad 13)), some (.int x1), some (.int x2), some (.int x3), some (.int x4), some (.int x5), some (.int x6), none] L → KF l { frames := 1, cells := 0, slots := 0, locals := 29 } 8 G ad (EC G ad MM) (QP PostV G ad (EC G ad MM)) X (f_X0_put_95 k43 n x1 x2 x3 x4 x5 x6 M) L 95 [] M := by
  intro n
  induction n with
  | zero =>
    intro x1 x2 x3 x4 x5 x6 M L hL
    exact KF.none'
  | succ n ih =>
    intro x1 x2 x3 x4 x5 x6 M L hL
    rw [f_X0_put_95]
    refine KF.locals (lsub_le hL) ?_
    refine k_iload hX rfl dX0_put_95 ?_
    refine k_if_le (tgt := 127) hX dX0_put_97 (by decide) (fun b1 => ?_) (fun b1 => ?_)
    · exact w_X0_put_127 hX hk43 x1 x2 x3 x4 x5 x6 M ⟨rfl, rfl, rfl, rfl, rfl, rfl, rfl, trivial⟩
    refine k_aload_n hX (i := 0) rfl rfl dX0_put_100 ?_
    refine k_get hX io_13 fl_X0_21 rfl dX0_put_101 ?_
    refine k_aload_n hX (i := 0) rfl rfl dX0_put_104 ?_
    refine k_get hX io_13 fl_X0_15 rfl dX0_put_105 ?_
    refine k_iload hX rfl dX0_put_108 ?_
    refine k_iconst (v := (nI 1)) hX rfl dX0_put_110 ?_
    refine k_isub hX dX0_put_111 ?_
    refine k_ald hX ia_15 dX0_put_112 (fun v2 => ?_)
    refine k_iload hX rfl dX0_put_113 ?_
    refine k_callVI (vs := [.int v2, .int x5]) hX (fun _ h9 => m_X1_order hX.2.2.2.2.2.2.1  h9) io_1 rfl ml_X0_47 ⟨Nat.le_of_ble_eq_true rfl, Nat.le_of_ble_eq_true rfl⟩ rfl rfl (Nat.le_of_ble_eq_true rfl) dX0_put_115 (fun q3 => ?_)
    refine k_if_le (tgt := 127) hX dX0_put_118 (by decide) (fun b4 => ?_) (fun b4 => ?_)
    · exact w_X0_put_127 hX hk43 x1 x2 x3 x4 x5 x6 q3.2 ⟨rfl, rfl, rfl, rfl, rfl, rfl, rfl, trivial⟩
    refine k_iinc (v := x6 - nI 1) (L' := [some (.ref (ad 13)), some (.int x1), some (.int x2), some (.int x3), some (.int x4), some (.int x5), some (.int (x6 - nI 1)), none]) hX (i := 6) rfl (iinc_neg _ _ rfl) (by decide) rfl dX0_put_121 ?_
    refine k_goto (tgt := 95) hX dX0_put_124 (by decide) ?_
    exact ih x1 x2 x3 x4 x5 (x6 - nI 1) q3.2 ⟨rfl, rfl, rfl, rfl, rfl, rfl, rfl, trivial⟩
set_option maxHeartbeats 4000000 in
set_option maxRecDepth 100000 in
theorem w_X0_put_89 {l : Launch} {G : GL} {ad : Nat → Nat} {MM : Mem} {X : CT} (hX : Cx l { frames := 1, cells := 0, slots := 0, locals := 29 } cX0_put RX0 8 none G ad X) {k43 : Int32 → Int32 → Int32 → Int32 → Mem → Option Rv} (hk43 : ∀ (x1 : Int32) (x2 : Int32) (x3 : Int32) (x4 : Int32) (M : Mem) {L : List (Option Value)}, lsub [some (.ref (ad 13)), some (.int x1), some (.int x2), some (.int x3), some (.int x4), none, none, none] L → KF l { frames := 1, cells := 0, slots := 0, locals := 29 } 8 G ad (EC G ad MM) (QP PostV G ad (EC G ad MM)) X (k43 x1 x2 x3 x4 M) L 43 [] M) : ∀ (x1 : Int32) (x2 : Int32) (x3 : Int32) (x4 : Int32) (x5 : Int32) (M : Mem) {L : List (Option Value)}, lsub [some (.ref (ad 13)), some (.int x1), some (.int x2), some (.int x3), some (.int x4), some (.int x5), none, none] L → KF l { frames := 1, cells := 0, slots := 0, locals := 29 } 8 G ad (EC G ad MM) (QP PostV G ad (EC G ad MM)) X (f_X0_put_89 k43 x1 x2 x3 x4 x5 M) L 89 [] M := by
  intro x1 x2 x3 x4 x5 M L hL
  unfold f_X0_put_89
  refine KF.locals (lsub_le hL) ?_
  refine k_aload_n hX (i := 0) rfl rfl dX0_put_89 ?_
  refine k_get hX io_13 fl_X0_29 rfl dX0_put_90 ?_
  refine k_istore (L' := [some (.ref (ad 13)), some (.int x1), some (.int x2), some (.int x3), some (.int x4), some (.int x5), some (.int (M 13 5)), none]) hX (by decide) rfl dX0_put_93 ?_
  exact w_X0_put_95 hX hk43 fuelN x1 x2 x3 x4 x5 (M 13 5) M ⟨rfl, rfl, rfl, rfl, rfl, rfl, rfl, trivial⟩
set_option maxHeartbeats 4000000 in
set_option maxRecDepth 100000 in
theorem w_X0_put_67 {l : Launch} {G : GL} {ad : Nat → Nat} {MM : Mem} {X : CT} (hX : Cx l { frames := 1, cells := 0, slots := 0, locals := 29 } cX0_put RX0 8 none G ad X) {k43 : Int32 → Int32 → Int32 → Int32 → Mem → Option Rv} (hk43 : ∀ (x1 : Int32) (x2 : Int32) (x3 : Int32) (x4 : Int32) (M : Mem) {L : List (Option Value)}, lsub [some (.ref (ad 13)), some (.int x1), some (.int x2), some (.int x3), some (.int x4), none, none, none] L → KF l { frames := 1, cells := 0, slots := 0, locals := 29 } 8 G ad (EC G ad MM) (QP PostV G ad (EC G ad MM)) X (k43 x1 x2 x3 x4 M) L 43 [] M) : ∀ (x1 : Int32) (x2 : Int32) (x3 : Int32) (x4 : Int32) (s0 : Int32) (M : Mem) {L : List (Option Value)}, lsub [some (.ref (ad 13)), some (.int x1), some (.int x2), some (.int x3), some (.int x4), none, none, none] L → KF l { frames := 1, cells := 0, slots := 0, locals := 29 } 8 G ad (EC G ad MM) (QP PostV G ad (EC G ad MM)) X (f_X0_put_67 k43 x1 x2 x3 x4 s0 M) L 67 [.int s0] M := by
  intro x1 x2 x3 x4 s0 M L hL
  unfold f_X0_put_67
  refine KF.locals (lsub_le hL) ?_
  refine k_istore (L' := [some (.ref (ad 13)), some (.int x1), some (.int x2), some (.int x3), some (.int x4), some (.int s0), none, none]) hX (by decide) rfl dX0_put_67 ?_
  refine k_iload hX rfl dX0_put_69 ?_
  refine k_bipush (v := (nI 16)) hX rfl dX0_put_71 ?_
  refine k_icmp_ge (tgt := 89) hX dX0_put_73 (by decide) (fun b1 => ?_) (fun b1 => ?_)
  · exact w_X0_put_89 hX hk43 x1 x2 x3 x4 s0 M ⟨rfl, rfl, rfl, rfl, rfl, rfl, trivial⟩
  refine k_aload_n hX (i := 0) rfl rfl dX0_put_76 ?_
  refine k_dup hX rfl dX0_put_77 ?_
  refine k_get hX io_13 fl_X0_32 rfl dX0_put_78 ?_
  refine k_iconst (v := (nI 1)) hX rfl dX0_put_81 ?_
  refine k_iload hX rfl dX0_put_82 ?_
  refine k_ishl hX dX0_put_84 ?_
  refine k_ior hX dX0_put_85 ?_
  refine k_puti hX locC io_13 fp_X0_32 (Nat.le_of_ble_eq_true rfl) rfl dX0_put_86 (fun M2 => ?_)
  exact w_X0_put_89 hX hk43 x1 x2 x3 x4 s0 M2 ⟨rfl, rfl, rfl, rfl, rfl, rfl, trivial⟩
set_option maxHeartbeats 4000000 in
set_option maxRecDepth 100000 in
theorem w_X0_put_43 {l : Launch} {G : GL} {ad : Nat → Nat} {MM : Mem} {X : CT} (hX : Cx l { frames := 1, cells := 0, slots := 0, locals := 29 } cX0_put RX0 8 none G ad X) : ∀ (n : Nat), ∀ (x1 : Int32) (x2 : Int32) (x3 : Int32) (x4 : Int32) (M : Mem) {L : List (Option Value)}, lsub [some (.ref (ad 13)), some (.int x1), some (.int x2), some (.int x3), some (.int x4), none, none, none] L → KF l { frames := 1, cells := 0, slots := 0, locals := 29 } 8 G ad (EC G ad MM) (QP PostV G ad (EC G ad MM)) X (f_X0_put_43 n x1 x2 x3 x4 M) L 43 [] M := by
  intro n
  induction n with
  | zero =>
    intro x1 x2 x3 x4 M L hL
    exact KF.none'
  | succ n ih =>
    intro x1 x2 x3 x4 M L hL
    rw [f_X0_put_43]
    refine KF.locals (lsub_le hL) ?_
    refine k_iload hX rfl dX0_put_43 ?_
    refine k_iload_n hX (i := 3) rfl rfl dX0_put_45 ?_
    refine k_icmp_ge (tgt := 226) hX dX0_put_46 (by decide) (fun b1 => ?_) (fun b1 => ?_)
    · exact k_vret hX dX0_put_226
    refine k_iload_n hX (i := 2) rfl rfl dX0_put_49 ?_
    refine k_if_eq (tgt := 66) hX dX0_put_50 (by decide) (fun b2 => ?_) (fun b2 => ?_)
    · refine k_iload_n hX (i := 1) rfl rfl dX0_put_66 ?_
      exact w_X0_put_67 hX ih x1 x2 x3 x4 x1 M ⟨rfl, rfl, rfl, rfl, rfl, trivial⟩
    refine k_aload_n hX (i := 0) rfl rfl dX0_put_53 ?_
    refine k_get hX io_13 fl_X0_21 rfl dX0_put_54 ?_
    refine k_iload_n hX (i := 1) rfl rfl dX0_put_57 ?_
    refine k_iload hX rfl dX0_put_58 ?_
    refine k_callVI (vs := [.int x1, .int x4]) hX (fun _ h9 => m_X1_kid hX.2.2.2.2.2.2.1  h9) io_1 rfl ml_X0_43 ⟨Nat.le_of_ble_eq_true rfl, Nat.le_of_ble_eq_true rfl⟩ rfl rfl (Nat.le_of_ble_eq_true rfl) dX0_put_60 (fun q3 => ?_)
    refine k_goto (tgt := 67) hX dX0_put_63 (by decide) ?_
    exact w_X0_put_67 hX ih x1 x2 x3 x4 q3.1 q3.2 ⟨rfl, rfl, rfl, rfl, rfl, trivial⟩
set_option maxHeartbeats 4000000 in
set_option maxRecDepth 100000 in
theorem w_X0_put_39 {l : Launch} {G : GL} {ad : Nat → Nat} {MM : Mem} {X : CT} (hX : Cx l { frames := 1, cells := 0, slots := 0, locals := 29 } cX0_put RX0 8 none G ad X) : ∀ (x1 : Int32) (x2 : Int32) (s0 : Int32) (M : Mem) {L : List (Option Value)}, lsub [some (.ref (ad 13)), some (.int x1), some (.int x2), none, none, none, none, none] L → KF l { frames := 1, cells := 0, slots := 0, locals := 29 } 8 G ad (EC G ad MM) (QP PostV G ad (EC G ad MM)) X (f_X0_put_39 x1 x2 s0 M) L 39 [.int s0] M := by
  intro x1 x2 s0 M L hL
  unfold f_X0_put_39
  refine KF.locals (lsub_le hL) ?_
  refine k_istore_n (L' := [some (.ref (ad 13)), some (.int x1), some (.int x2), some (.int s0), none, none, none, none]) hX (i := 3) rfl (by decide) rfl dX0_put_39 ?_
  refine k_iconst (v := (nI 0)) hX rfl dX0_put_40 ?_
  refine k_istore (L' := [some (.ref (ad 13)), some (.int x1), some (.int x2), some (.int s0), some (.int (nI 0)), none, none, none]) hX (by decide) rfl dX0_put_41 ?_
  exact w_X0_put_43 hX fuelN x1 x2 s0 (nI 0) M ⟨rfl, rfl, rfl, rfl, rfl, trivial⟩
set_option maxHeartbeats 4000000 in
set_option maxRecDepth 100000 in
theorem w_X0_put_21 {l : Launch} {G : GL} {ad : Nat → Nat} {MM : Mem} {X : CT} (hX : Cx l { frames := 1, cells := 0, slots := 0, locals := 29 } cX0_put RX0 8 none G ad X) : ∀ (x1 : Int32) (s0 : Int32) (M : Mem) {L : List (Option Value)}, lsub [some (.ref (ad 13)), some (.int x1), none, none, none, none, none, none] L → KF l { frames := 1, cells := 0, slots := 0, locals := 29 } 8 G ad (EC G ad MM) (QP PostV G ad (EC G ad MM)) X (f_X0_put_21 x1 s0 M) L 21 [.int s0] M := by
  intro x1 s0 M L hL
  unfold f_X0_put_21
  refine KF.locals (lsub_le hL) ?_
  refine k_istore_n (L' := [some (.ref (ad 13)), some (.int x1), some (.int s0), none, none, none, none, none]) hX (i := 2) rfl (by decide) rfl dX0_put_21 ?_
  refine k_iload_n hX (i := 2) rfl rfl dX0_put_22 ?_
  refine k_if_eq (tgt := 38) hX dX0_put_23 (by decide) (fun b1 => ?_) (fun b1 => ?_)
  · refine k_iconst (v := (nI 1)) hX rfl dX0_put_38 ?_
    exact w_X0_put_39 hX x1 s0 (nI 1) M ⟨rfl, rfl, rfl, trivial⟩
  refine k_aload_n hX (i := 0) rfl rfl dX0_put_26 ?_
  refine k_get hX io_13 fl_X0_21 rfl dX0_put_27 ?_
  refine k_get hX io_1 fl_X0_40 rfl dX0_put_30 ?_
  refine k_iload_n hX (i := 1) rfl rfl dX0_put_33 ?_
  refine k_ald hX ia_4 dX0_put_34 (fun v2 => ?_)
  refine k_goto (tgt := 39) hX dX0_put_35 (by decide) ?_
  exact w_X0_put_39 hX x1 s0 v2 M ⟨rfl, rfl, rfl, trivial⟩
set_option maxHeartbeats 4000000 in
set_option maxRecDepth 100000 in
theorem w_X0_put {l : Launch} {G : GL} {ad : Nat → Nat} {MM : Mem} {X : CT} (hX : Cx l { frames := 1, cells := 0, slots := 0, locals := 29 } cX0_put RX0 8 none G ad X) {p1 : Int32} {M : Mem} : KF l { frames := 1, cells := 0, slots := 0, locals := 29 } 8 G ad (EC G ad MM) (QP PostV G ad (EC G ad MM)) X (f_X0_put p1 M) [some (.ref (ad 13)), some (.int p1), none, none, none, none, none, none] 0 [] M := by
  unfold f_X0_put
  refine k_aload_n hX (i := 0) rfl rfl dX0_put_0 ?_
  refine k_get hX io_13 fl_X0_21 rfl dX0_put_1 ?_
  refine k_get hX io_1 fl_X0_35 rfl dX0_put_4 ?_
  refine k_iload_n hX (i := 1) rfl rfl dX0_put_7 ?_
  refine k_ald hX ia_2 dX0_put_8 (fun v1 => ?_)
  refine k_aload_n hX (i := 0) rfl rfl dX0_put_9 ?_
  refine k_get hX io_13 fl_X0_25 rfl dX0_put_10 ?_
  refine k_icmp_ne (tgt := 20) hX dX0_put_13 (by decide) (fun b2 => ?_) (fun b2 => ?_)
  · refine k_iconst (v := (nI 0)) hX rfl dX0_put_20 ?_
    exact w_X0_put_21 hX p1 (nI 0) M ⟨rfl, rfl, trivial⟩
  refine k_iconst (v := (nI 1)) hX rfl dX0_put_16 ?_
  refine k_goto (tgt := 21) hX dX0_put_17 (by decide) ?_
  exact w_X0_put_21 hX p1 (nI 1) M ⟨rfl, rfl, trivial⟩
set_option maxRecDepth 100000 in
theorem m_X0_put {l : Launch} {G : GL} {ad : Nat → Nat} {MM : Mem} (hAd : AdOK G ad) {p1 : Int32} {M : Mem} {r : Rv} (h : f_X0_put p1 M = some r) : Ct PostV l G ad (EC G ad MM) yX0_put cX0_put 8 none 1 29 [.ref (ad 13), .int p1] M r := ct_of' hAd (by decide +kernel) (List.forall_mem_cons.mpr ⟨rfl, (List.forall_mem_cons.mpr ⟨rfl, (fun _ h => absurd h List.not_mem_nil)⟩)⟩) (Nat.le_of_ble_eq_true rfl) (L := [some (.ref (ad 13)), some (.int p1), none, none, none, none, none, none]) rfl (fun _ hX => w_X0_put hX) h
set_option maxHeartbeats 4000000 in
set_option maxRecDepth 100000 in
theorem w_X1_describe_108 {l : Launch} {G : GL} {ad : Nat → Nat} {MM : Mem} {X : CT} (hX : Cx l { frames := 0, cells := 0, slots := 0, locals := 0 } cX1_describe RX1 9 none G ad X) {k26 : Int32 → Int32 → Int32 → Int32 → Int32 → Int32 → Int32 → Mem → Option Rv} (hk26 : ∀ (x1 : Int32) (x2 : Int32) (x3 : Int32) (x4 : Int32) (x5 : Int32) (x6 : Int32) (x7 : Int32) (M : Mem) {L : List (Option Value)}, lsub [some (.ref (ad 1)), some (.int x1), some (.int x2), some (.int x3), some (.int x4), some (.int x5), some (.int x6), some (.int x7), none] L → KF l { frames := 0, cells := 0, slots := 0, locals := 0 } 9 G ad (EC G ad MM) (QP PostV G ad (EC G ad MM)) X (k26 x1 x2 x3 x4 x5 x6 x7 M) L 26 [] M) : ∀ (x1 : Int32) (x2 : Int32) (x3 : Int32) (x4 : Int32) (x5 : Int32) (x7 : Int32) (s0 : Int32) (M : Mem) {L : List (Option Value)}, lsub [some (.ref (ad 1)), some (.int x1), some (.int x2), some (.int x3), some (.int x4), some (.int x5), none, some (.int x7), none] L → KF l { frames := 0, cells := 0, slots := 0, locals := 0 } 9 G ad (EC G ad MM) (QP PostV G ad (EC G ad MM)) X (f_X1_describe_108 k26 x1 x2 x3 x4 x5 x7 s0 M) L 108 [.int s0] M := by
  intro x1 x2 x3 x4 x5 x7 s0 M L hL
  unfold f_X1_describe_108
  refine KF.locals (lsub_le hL) ?_
  refine k_istore (L' := [some (.ref (ad 1)), some (.int x1), some (.int x2), some (.int x3), some (.int x4), some (.int x5), some (.int s0), some (.int x7), none]) hX (by decide) rfl dX1_describe_108 ?_
  refine k_iinc (v := x7 + nI 1) (L' := [some (.ref (ad 1)), some (.int x1), some (.int x2), some (.int x3), some (.int x4), some (.int x5), some (.int s0), some (.int (x7 + nI 1)), none]) hX (i := 7) rfl rfl (by decide) rfl dX1_describe_110 ?_
  refine k_goto (tgt := 26) hX dX1_describe_113 (by decide) ?_
  exact hk26 x1 x2 x3 x4 x5 s0 (x7 + nI 1) M ⟨rfl, rfl, rfl, rfl, rfl, rfl, rfl, rfl, trivial⟩
set_option maxHeartbeats 4000000 in
set_option maxRecDepth 100000 in
theorem w_X1_describe_103 {l : Launch} {G : GL} {ad : Nat → Nat} {MM : Mem} {X : CT} (hX : Cx l { frames := 0, cells := 0, slots := 0, locals := 0 } cX1_describe RX1 9 none G ad X) {k26 : Int32 → Int32 → Int32 → Int32 → Int32 → Int32 → Int32 → Mem → Option Rv} (hk26 : ∀ (x1 : Int32) (x2 : Int32) (x3 : Int32) (x4 : Int32) (x5 : Int32) (x6 : Int32) (x7 : Int32) (M : Mem) {L : List (Option Value)}, lsub [some (.ref (ad 1)), some (.int x1), some (.int x2), some (.int x3), some (.int x4), some (.int x5), some (.int x6), some (.int x7), none] L → KF l { frames := 0, cells := 0, slots := 0, locals := 0 } 9 G ad (EC G ad MM) (QP PostV G ad (EC G ad MM)) X (k26 x1 x2 x3 x4 x5 x6 x7 M) L 26 [] M) : ∀ (x1 : Int32) (x2 : Int32) (x3 : Int32) (x4 : Int32) (x5 : Int32) (x7 : Int32) (M : Mem) {L : List (Option Value)}, lsub [some (.ref (ad 1)), some (.int x1), some (.int x2), some (.int x3), some (.int x4), some (.int x5), none, some (.int x7), none] L → KF l { frames := 0, cells := 0, slots := 0, locals := 0 } 9 G ad (EC G ad MM) (QP PostV G ad (EC G ad MM)) X (f_X1_describe_103 k26 x1 x2 x3 x4 x5 x7 M) L 103 [] M := by
  intro x1 x2 x3 x4 x5 x7 M L hL
  unfold f_X1_describe_103
  refine KF.locals (lsub_le hL) ?_
  refine k_iconst (v := (nI 1)) hX rfl dX1_describe_103 ?_
  refine k_goto (tgt := 108) hX dX1_describe_104 (by decide) ?_
  exact w_X1_describe_108 hX hk26 x1 x2 x3 x4 x5 x7 (nI 1) M ⟨rfl, rfl, rfl, rfl, rfl, rfl, rfl, trivial⟩
set_option maxHeartbeats 4000000 in
set_option maxRecDepth 100000 in
theorem w_X1_describe_86 {l : Launch} {G : GL} {ad : Nat → Nat} {MM : Mem} {X : CT} (hX : Cx l { frames := 0, cells := 0, slots := 0, locals := 0 } cX1_describe RX1 9 none G ad X) {k26 : Int32 → Int32 → Int32 → Int32 → Int32 → Int32 → Int32 → Mem → Option Rv} (hk26 : ∀ (x1 : Int32) (x2 : Int32) (x3 : Int32) (x4 : Int32) (x5 : Int32) (x6 : Int32) (x7 : Int32) (M : Mem) {L : List (Option Value)}, lsub [some (.ref (ad 1)), some (.int x1), some (.int x2), some (.int x3), some (.int x4), some (.int x5), some (.int x6), some (.int x7), none] L → KF l { frames := 0, cells := 0, slots := 0, locals := 0 } 9 G ad (EC G ad MM) (QP PostV G ad (EC G ad MM)) X (k26 x1 x2 x3 x4 x5 x6 x7 M) L 26 [] M) : ∀ (x1 : Int32) (x2 : Int32) (x3 : Int32) (x4 : Int32) (x6 : Int32) (x7 : Int32) (x8 : Int32) (s0 : Int32) (M : Mem) {L : List (Option Value)}, lsub [some (.ref (ad 1)), some (.int x1), some (.int x2), some (.int x3), some (.int x4), none, some (.int x6), some (.int x7), some (.int x8)] L → KF l { frames := 0, cells := 0, slots := 0, locals := 0 } 9 G ad (EC G ad MM) (QP PostV G ad (EC G ad MM)) X (f_X1_describe_86 k26 x1 x2 x3 x4 x6 x7 x8 s0 M) L 86 [.int s0] M := by
  intro x1 x2 x3 x4 x6 x7 x8 s0 M L hL
  unfold f_X1_describe_86
  refine KF.locals (lsub_le hL) ?_
  refine k_istore (L' := [some (.ref (ad 1)), some (.int x1), some (.int x2), some (.int x3), some (.int x4), some (.int s0), some (.int x6), some (.int x7), some (.int x8)]) hX (by decide) rfl dX1_describe_86 ?_
  refine k_iload hX rfl dX1_describe_88 ?_
  refine k_if_ne (tgt := 103) hX dX1_describe_90 (by decide) (fun b1 => ?_) (fun b1 => ?_)
  · exact w_X1_describe_103 hX hk26 x1 x2 x3 x4 s0 x7 M ⟨rfl, rfl, rfl, rfl, rfl, rfl, rfl, trivial⟩
  refine k_aload_n hX (i := 0) rfl rfl dX1_describe_93 ?_
  refine k_get hX io_1 fl_X1_27 rfl dX1_describe_94 ?_
  refine k_iload hX rfl dX1_describe_97 ?_
  refine k_zald hX ia_7 dX1_describe_99 (fun v2 => ?_)
  refine k_if_eq (tgt := 107) hX dX1_describe_100 (by decide) (fun b3 => ?_) (fun b3 => ?_)
  · refine k_iconst (v := (nI 0)) hX rfl dX1_describe_107 ?_
    exact w_X1_describe_108 hX hk26 x1 x2 x3 x4 s0 x7 (nI 0) M ⟨rfl, rfl, rfl, rfl, rfl, rfl, rfl, trivial⟩
  exact w_X1_describe_103 hX hk26 x1 x2 x3 x4 s0 x7 M ⟨rfl, rfl, rfl, rfl, rfl, rfl, rfl, trivial⟩
set_option maxHeartbeats 4000000 in
set_option maxRecDepth 100000 in
theorem w_X1_describe_85 {l : Launch} {G : GL} {ad : Nat → Nat} {MM : Mem} {X : CT} (hX : Cx l { frames := 0, cells := 0, slots := 0, locals := 0 } cX1_describe RX1 9 none G ad X) {k26 : Int32 → Int32 → Int32 → Int32 → Int32 → Int32 → Int32 → Mem → Option Rv} (hk26 : ∀ (x1 : Int32) (x2 : Int32) (x3 : Int32) (x4 : Int32) (x5 : Int32) (x6 : Int32) (x7 : Int32) (M : Mem) {L : List (Option Value)}, lsub [some (.ref (ad 1)), some (.int x1), some (.int x2), some (.int x3), some (.int x4), some (.int x5), some (.int x6), some (.int x7), none] L → KF l { frames := 0, cells := 0, slots := 0, locals := 0 } 9 G ad (EC G ad MM) (QP PostV G ad (EC G ad MM)) X (k26 x1 x2 x3 x4 x5 x6 x7 M) L 26 [] M) : ∀ (x1 : Int32) (x2 : Int32) (x3 : Int32) (x4 : Int32) (x6 : Int32) (x7 : Int32) (x8 : Int32) (M : Mem) {L : List (Option Value)}, lsub [some (.ref (ad 1)), some (.int x1), some (.int x2), some (.int x3), some (.int x4), none, some (.int x6), some (.int x7), some (.int x8)] L → KF l { frames := 0, cells := 0, slots := 0, locals := 0 } 9 G ad (EC G ad MM) (QP PostV G ad (EC G ad MM)) X (f_X1_describe_85 k26 x1 x2 x3 x4 x6 x7 x8 M) L 85 [] M := by
  intro x1 x2 x3 x4 x6 x7 x8 M L hL
  unfold f_X1_describe_85
  refine KF.locals (lsub_le hL) ?_
  refine k_iconst (v := (nI 0)) hX rfl dX1_describe_85 ?_
  exact w_X1_describe_86 hX hk26 x1 x2 x3 x4 x6 x7 x8 (nI 0) M ⟨rfl, rfl, rfl, rfl, rfl, rfl, rfl, rfl, trivial⟩
set_option maxHeartbeats 4000000 in
set_option maxRecDepth 100000 in
theorem w_X1_describe_205 {l : Launch} {G : GL} {ad : Nat → Nat} {MM : Mem} {X : CT} (hX : Cx l { frames := 0, cells := 0, slots := 0, locals := 0 } cX1_describe RX1 9 none G ad X) : ∀ (s0 : Int32) (s1 : Int32) (M : Mem) {L : List (Option Value)}, lsub [none, none, none, none, none, none, none, none, none] L → KF l { frames := 0, cells := 0, slots := 0, locals := 0 } 9 G ad (EC G ad MM) (QP PostV G ad (EC G ad MM)) X (f_X1_describe_205 s0 s1 M) L 205 [.int s0, .int s1, .ref (ad 7)] M := by
  intro s0 s1 M L hL
  unfold f_X1_describe_205
  refine KF.locals (lsub_le hL) ?_
  refine k_zast hX locC ia_7 dX1_describe_205 (fun M1 => ?_)
  exact k_vret hX dX1_describe_206
set_option maxHeartbeats 4000000 in
set_option maxRecDepth 100000 in
theorem w_X1_describe_200 {l : Launch} {G : GL} {ad : Nat → Nat} {MM : Mem} {X : CT} (hX : Cx l { frames := 0, cells := 0, slots := 0, locals := 0 } cX1_describe RX1 9 none G ad X) : ∀ (s0 : Int32) (M : Mem) {L : List (Option Value)}, lsub [none, none, none, none, none, none, none, none, none] L → KF l { frames := 0, cells := 0, slots := 0, locals := 0 } 9 G ad (EC G ad MM) (QP PostV G ad (EC G ad MM)) X (f_X1_describe_200 s0 M) L 200 [.int s0, .ref (ad 7)] M := by
  intro s0 M L hL
  unfold f_X1_describe_200
  refine KF.locals (lsub_le hL) ?_
  refine k_iconst (v := (nI 1)) hX rfl dX1_describe_200 ?_
  refine k_goto (tgt := 205) hX dX1_describe_201 (by decide) ?_
  exact w_X1_describe_205 hX (nI 1) s0 M trivial
set_option maxHeartbeats 4000000 in
set_option maxRecDepth 100000 in
theorem w_X1_describe_204 {l : Launch} {G : GL} {ad : Nat → Nat} {MM : Mem} {X : CT} (hX : Cx l { frames := 0, cells := 0, slots := 0, locals := 0 } cX1_describe RX1 9 none G ad X) : ∀ (s0 : Int32) (M : Mem) {L : List (Option Value)}, lsub [none, none, none, none, none, none, none, none, none] L → KF l { frames := 0, cells := 0, slots := 0, locals := 0 } 9 G ad (EC G ad MM) (QP PostV G ad (EC G ad MM)) X (f_X1_describe_204 s0 M) L 204 [.int s0, .ref (ad 7)] M := by
  intro s0 M L hL
  unfold f_X1_describe_204
  refine KF.locals (lsub_le hL) ?_
  refine k_iconst (v := (nI 0)) hX rfl dX1_describe_204 ?_
  exact w_X1_describe_205 hX (nI 0) s0 M trivial
set_option maxHeartbeats 4000000 in
set_option maxRecDepth 100000 in
theorem w_X1_describe_189 {l : Launch} {G : GL} {ad : Nat → Nat} {MM : Mem} {X : CT} (hX : Cx l { frames := 0, cells := 0, slots := 0, locals := 0 } cX1_describe RX1 9 none G ad X) : ∀ (x2 : Int32) (x6 : Int32) (s0 : Int32) (M : Mem) {L : List (Option Value)}, lsub [none, none, some (.int x2), none, none, none, some (.int x6), none, none] L → KF l { frames := 0, cells := 0, slots := 0, locals := 0 } 9 G ad (EC G ad MM) (QP PostV G ad (EC G ad MM)) X (f_X1_describe_189 x2 x6 s0 M) L 189 [.int s0, .ref (ad 7)] M := by
  intro x2 x6 s0 M L hL
  unfold f_X1_describe_189
  refine KF.locals (lsub_le hL) ?_
  refine k_iload_n hX (i := 2) rfl rfl dX1_describe_189 ?_
  refine k_bipush (v := (nI 21)) hX rfl dX1_describe_190 ?_
  refine k_icmp_ne (tgt := 204) hX dX1_describe_192 (by decide) (fun b1 => ?_) (fun b1 => ?_)
  · exact w_X1_describe_204 hX s0 M trivial
  refine k_iload hX rfl dX1_describe_195 ?_
  refine k_if_eq (tgt := 204) hX dX1_describe_197 (by decide) (fun b2 => ?_) (fun b2 => ?_)
  · exact w_X1_describe_204 hX s0 M trivial
  exact w_X1_describe_200 hX s0 M trivial
set_option maxHeartbeats 4000000 in
set_option maxRecDepth 100000 in
theorem w_X1_describe_160 {l : Launch} {G : GL} {ad : Nat → Nat} {MM : Mem} {X : CT} (hX : Cx l { frames := 0, cells := 0, slots := 0, locals := 0 } cX1_describe RX1 9 none G ad X) : ∀ (x1 : Int32) (x2 : Int32) (x5 : Int32) (x6 : Int32) (s0 : Int32) (s1 : Int32) (M : Mem) {L : List (Option Value)}, lsub [some (.ref (ad 1)), some (.int x1), some (.int x2), none, none, some (.int x5), some (.int x6), none, none] L → KF l { frames := 0, cells := 0, slots := 0, locals := 0 } 9 G ad (EC G ad MM) (QP PostV G ad (EC G ad MM)) X (f_X1_describe_160 x1 x2 x5 x6 s0 s1 M) L 160 [.int s0, .int s1, .ref (ad 8)] M := by
  intro x1 x2 x5 x6 s0 s1 M L hL
  unfold f_X1_describe_160
  refine KF.locals (lsub_le hL) ?_
  refine k_cast hX locC ia_8 dX1_describe_160 (fun M1 => ?_)
  refine k_aload_n hX (i := 0) rfl rfl dX1_describe_161 ?_
  refine k_get hX io_1 fl_X1_27 rfl dX1_describe_162 ?_
  refine k_iload_n hX (i := 1) rfl rfl dX1_describe_165 ?_
  refine k_iload_n hX (i := 2) rfl rfl dX1_describe_166 ?_
  refine k_bipush (v := (nI 17)) hX rfl dX1_describe_167 ?_
  refine k_icmp_eq (tgt := 200) hX dX1_describe_169 (by decide) (fun b2 => ?_) (fun b2 => ?_)
  · exact w_X1_describe_200 hX x1 M1 trivial
  refine k_iload_n hX (i := 2) rfl rfl dX1_describe_172 ?_
  refine k_bipush (v := (nI 19)) hX rfl dX1_describe_173 ?_
  refine k_icmp_eq (tgt := 200) hX dX1_describe_175 (by decide) (fun b3 => ?_) (fun b3 => ?_)
  · exact w_X1_describe_200 hX x1 M1 trivial
  refine k_iload_n hX (i := 2) rfl rfl dX1_describe_178 ?_
  refine k_bipush (v := (nI 20)) hX rfl dX1_describe_179 ?_
  refine k_icmp_ne (tgt := 189) hX dX1_describe_181 (by decide) (fun b4 => ?_) (fun b4 => ?_)
  · exact w_X1_describe_189 hX x2 x6 x1 M1 ⟨rfl, rfl, trivial⟩
  refine k_iload hX rfl dX1_describe_184 ?_
  refine k_if_ne (tgt := 200) hX dX1_describe_186 (by decide) (fun b5 => ?_) (fun b5 => ?_)
  · exact w_X1_describe_200 hX x1 M1 trivial
  exact w_X1_describe_189 hX x2 x6 x1 M1 ⟨rfl, rfl, trivial⟩
set_option maxHeartbeats 4000000 in
set_option maxRecDepth 100000 in
theorem w_X1_describe_26 {l : Launch} {G : GL} {ad : Nat → Nat} {MM : Mem} {X : CT} (hX : Cx l { frames := 0, cells := 0, slots := 0, locals := 0 } cX1_describe RX1 9 none G ad X) : ∀ (n : Nat), ∀ (x1 : Int32) (x2 : Int32) (x3 : Int32) (x4 : Int32) (x5 : Int32) (x6 : Int32) (x7 : Int32) (M : Mem) {L : List (Option Value)}, lsub [some (.ref (ad 1)), some (.int x1), some (.int x2), some (.int x3), some (.int x4), some (.int x5), some (.int x6), some (.int x7), none] L → KF l { frames := 0, cells := 0, slots := 0, locals := 0 } 9 G ad (EC G ad MM) (QP PostV G ad (EC G ad MM)) X (f_X1_describe_26 n x1 x2 x3 x4 x5 x6 x7 M) L 26 [] M := by
  intro n
  induction n with
  | zero =>
    intro x1 x2 x3 x4 x5 x6 x7 M L hL
    exact KF.none'
  | succ n ih =>
    intro x1 x2 x3 x4 x5 x6 x7 M L hL
    rw [f_X1_describe_26]
    refine KF.locals (lsub_le hL) ?_
    refine k_iload hX rfl dX1_describe_26 ?_
    refine k_aload_n hX (i := 0) rfl rfl dX1_describe_28 ?_
    refine k_get hX io_1 fl_X1_54 rfl dX1_describe_29 ?_
    refine k_icmp_ge (tgt := 116) hX dX1_describe_32 (by decide) (fun b1 => ?_) (fun b1 => ?_)
    · refine k_aload_n hX (i := 0) rfl rfl dX1_describe_116 ?_
      refine k_get hX io_1 fl_X1_21 rfl dX1_describe_117 ?_
      refine k_iload_n hX (i := 1) rfl rfl dX1_describe_120 ?_
      refine k_iload_n hX (i := 3) rfl rfl dX1_describe_121 ?_
      refine k_ast hX locC ia_5 dX1_describe_122 (fun M2 => ?_)
      refine k_aload_n hX (i := 0) rfl rfl dX1_describe_123 ?_
      refine k_get hX io_1 fl_X1_24 rfl dX1_describe_124 ?_
      refine k_iload_n hX (i := 1) rfl rfl dX1_describe_127 ?_
      refine k_iload hX rfl dX1_describe_128 ?_
      refine k_ast hX locC ia_6 dX1_describe_130 (fun M3 => ?_)
      refine k_aload_n hX (i := 0) rfl rfl dX1_describe_131 ?_
      refine k_get hX io_1 fl_X1_31 rfl dX1_describe_132 ?_
      refine k_iload_n hX (i := 1) rfl rfl dX1_describe_135 ?_
      refine k_iload_n hX (i := 2) rfl rfl dX1_describe_136 ?_
      refine k_bipush (v := (nI 16)) hX rfl dX1_describe_137 ?_
      refine k_icmp_ne (tgt := 147) hX dX1_describe_139 (by decide) (fun b4 => ?_) (fun b4 => ?_)
      · refine k_iload_n hX (i := 2) rfl rfl dX1_describe_147 ?_
        refine k_bipush (v := (nI 17)) hX rfl dX1_describe_148 ?_
        refine k_icmp_ne (tgt := 158) hX dX1_describe_150 (by decide) (fun b5 => ?_) (fun b5 => ?_)
        · refine k_bipush (v := (nI 40)) hX rfl dX1_describe_158 ?_
          exact w_X1_describe_160 hX x1 x2 x5 x6 (nI 40) x1 M3 ⟨rfl, rfl, rfl, rfl, rfl, trivial⟩
        refine k_bipush (v := (nI 78)) hX rfl dX1_describe_153 ?_
        refine k_goto (tgt := 160) hX dX1_describe_155 (by decide) ?_
        exact w_X1_describe_160 hX x1 x2 x5 x6 (nI 78) x1 M3 ⟨rfl, rfl, rfl, rfl, rfl, trivial⟩
      refine k_bipush (v := (nI 88)) hX rfl dX1_describe_142 ?_
      refine k_goto (tgt := 160) hX dX1_describe_144 (by decide) ?_
      exact w_X1_describe_160 hX x1 x2 x5 x6 (nI 88) x1 M3 ⟨rfl, rfl, rfl, rfl, rfl, trivial⟩
    refine k_aload_n hX (i := 0) rfl rfl dX1_describe_35 ?_
    refine k_get hX io_1 fl_X1_35 rfl dX1_describe_36 ?_
    refine k_iload hX rfl dX1_describe_39 ?_
    refine k_ald hX ia_9 dX1_describe_41 (fun v6 => ?_)
    refine k_istore (L' := [some (.ref (ad 1)), some (.int x1), some (.int x2), some (.int x3), some (.int x4), some (.int x5), some (.int x6), some (.int x7), some (.int v6)]) hX (by decide) rfl dX1_describe_42 ?_
    refine k_iload_n hX (i := 3) rfl rfl dX1_describe_44 ?_
    refine k_aload_n hX (i := 0) rfl rfl dX1_describe_45 ?_
    refine k_get hX io_1 fl_X1_21 rfl dX1_describe_46 ?_
    refine k_iload hX rfl dX1_describe_49 ?_
    refine k_ald hX ia_5 dX1_describe_51 (fun v7 => ?_)
    refine k_iadd hX dX1_describe_52 ?_
    refine k_istore_n (L' := [some (.ref (ad 1)), some (.int x1), some (.int x2), some (.int (x3 + v7)), some (.int x4), some (.int x5), some (.int x6), some (.int x7), some (.int v6)]) hX (i := 3) rfl (by decide) rfl dX1_describe_53 ?_
    refine k_iload hX rfl dX1_describe_54 ?_
    refine k_aload_n hX (i := 0) rfl rfl dX1_describe_56 ?_
    refine k_get hX io_1 fl_X1_24 rfl dX1_describe_57 ?_
    refine k_iload hX rfl dX1_describe_60 ?_
    refine k_ald hX ia_6 dX1_describe_62 (fun v8 => ?_)
    refine k_ior hX dX1_describe_63 ?_
    refine k_istore (L' := [some (.ref (ad 1)), some (.int x1), some (.int x2), some (.int (x3 + v7)), some (.int (x4 ||| v8)), some (.int x5), some (.int x6), some (.int x7), some (.int v6)]) hX (by decide) rfl dX1_describe_64 ?_
    refine k_iload hX rfl dX1_describe_66 ?_
    refine k_if_eq (tgt := 85) hX dX1_describe_68 (by decide) (fun b9 => ?_) (fun b9 => ?_)
    · exact w_X1_describe_85 hX ih x1 x2 (x3 + v7) (x4 ||| v8) x6 x7 v6 M ⟨rfl, rfl, rfl, rfl, rfl, rfl, rfl, rfl, trivial⟩
    refine k_aload_n hX (i := 0) rfl rfl dX1_describe_71 ?_
    refine k_get hX io_1 fl_X1_27 rfl dX1_describe_72 ?_
    refine k_iload hX rfl dX1_describe_75 ?_
    refine k_zald hX ia_7 dX1_describe_77 (fun v10 => ?_)
    refine k_if_eq (tgt := 85) hX dX1_describe_78 (by decide) (fun b11 => ?_) (fun b11 => ?_)
    · exact w_X1_describe_85 hX ih x1 x2 (x3 + v7) (x4 ||| v8) x6 x7 v6 M ⟨rfl, rfl, rfl, rfl, rfl, rfl, rfl, rfl, trivial⟩
    refine k_iconst (v := (nI 1)) hX rfl dX1_describe_81 ?_
    refine k_goto (tgt := 86) hX dX1_describe_82 (by decide) ?_
    exact w_X1_describe_86 hX ih x1 x2 (x3 + v7) (x4 ||| v8) x6 x7 v6 (nI 1) M ⟨rfl, rfl, rfl, rfl, rfl, rfl, rfl, rfl, trivial⟩
set_option maxHeartbeats 4000000 in
set_option maxRecDepth 100000 in
theorem w_X1_describe {l : Launch} {G : GL} {ad : Nat → Nat} {MM : Mem} {X : CT} (hX : Cx l { frames := 0, cells := 0, slots := 0, locals := 0 } cX1_describe RX1 9 none G ad X) {p1 : Int32} {M : Mem} : KF l { frames := 0, cells := 0, slots := 0, locals := 0 } 9 G ad (EC G ad MM) (QP PostV G ad (EC G ad MM)) X (f_X1_describe p1 M) [some (.ref (ad 1)), some (.int p1), none, none, none, none, none, none, none] 0 [] M := by
  unfold f_X1_describe
  refine k_aload_n hX (i := 0) rfl rfl dX1_describe_0 ?_
  refine k_get hX io_1 fl_X1_9 rfl dX1_describe_1 ?_
  refine k_iload_n hX (i := 1) rfl rfl dX1_describe_4 ?_
  refine k_ald hX ia_2 dX1_describe_5 (fun v1 => ?_)
  refine k_istore_n (L' := [some (.ref (ad 1)), some (.int p1), some (.int v1), none, none, none, none, none, none]) hX (i := 2) rfl (by decide) rfl dX1_describe_6 ?_
  refine k_iconst (v := (nI 1)) hX rfl dX1_describe_7 ?_
  refine k_istore_n (L' := [some (.ref (ad 1)), some (.int p1), some (.int v1), some (.int (nI 1)), none, none, none, none, none]) hX (i := 3) rfl (by decide) rfl dX1_describe_8 ?_
  refine k_iconst (v := (nI 0)) hX rfl dX1_describe_9 ?_
  refine k_istore (L' := [some (.ref (ad 1)), some (.int p1), some (.int v1), some (.int (nI 1)), some (.int (nI 0)), none, none, none, none]) hX (by decide) rfl dX1_describe_10 ?_
  refine k_iconst (v := (nI 1)) hX rfl dX1_describe_12 ?_
  refine k_istore (L' := [some (.ref (ad 1)), some (.int p1), some (.int v1), some (.int (nI 1)), some (.int (nI 0)), some (.int (nI 1)), none, none, none]) hX (by decide) rfl dX1_describe_13 ?_
  refine k_iconst (v := (nI 0)) hX rfl dX1_describe_15 ?_
  refine k_istore (L' := [some (.ref (ad 1)), some (.int p1), some (.int v1), some (.int (nI 1)), some (.int (nI 0)), some (.int (nI 1)), some (.int (nI 0)), none, none]) hX (by decide) rfl dX1_describe_16 ?_
  refine k_aload_n hX (i := 0) rfl rfl dX1_describe_18 ?_
  refine k_get hX io_1 fl_X1_15 rfl dX1_describe_19 ?_
  refine k_iload_n hX (i := 1) rfl rfl dX1_describe_22 ?_
  refine k_ald hX ia_3 dX1_describe_23 (fun v2 => ?_)
  refine k_istore (L' := [some (.ref (ad 1)), some (.int p1), some (.int v1), some (.int (nI 1)), some (.int (nI 0)), some (.int (nI 1)), some (.int (nI 0)), some (.int v2), none]) hX (by decide) rfl dX1_describe_24 ?_
  exact w_X1_describe_26 hX fuelN p1 v1 (nI 1) (nI 0) (nI 1) (nI 0) v2 M ⟨rfl, rfl, rfl, rfl, rfl, rfl, rfl, rfl, trivial⟩
set_option maxRecDepth 100000 in
theorem m_X1_describe {l : Launch} {G : GL} {ad : Nat → Nat} {MM : Mem} (hAd : AdOK G ad) {p1 : Int32} {M : Mem} {r : Rv} (h : f_X1_describe p1 M = some r) : Ct PostV l G ad (EC G ad MM) yX1_describe cX1_describe 9 none 0 0 [.ref (ad 1), .int p1] M r := ct_of' hAd (by decide +kernel) (List.forall_mem_cons.mpr ⟨rfl, (List.forall_mem_cons.mpr ⟨rfl, (fun _ h => absurd h List.not_mem_nil)⟩)⟩) (Nat.le_of_ble_eq_true rfl) (L := [some (.ref (ad 1)), some (.int p1), none, none, none, none, none, none, none]) rfl (fun _ hX => w_X1_describe hX) h
set_option maxHeartbeats 4000000 in
set_option maxRecDepth 100000 in
theorem w_X1_isMadeOf_21 {l : Launch} {G : GL} {ad : Nat → Nat} {MM : Mem} {X : CT} (hX : Cx l { frames := 0, cells := 0, slots := 0, locals := 0 } cX1_isMadeOf RX1 7 (some .boolean) G ad X) : ∀ (M : Mem) {L : List (Option Value)}, lsub [none, none, none, none, none, none, none] L → KF l { frames := 0, cells := 0, slots := 0, locals := 0 } 7 G ad (EC G ad MM) (QP PostI G ad (EC G ad MM)) X (f_X1_isMadeOf_21 M) L 21 [] M := by
  intro M L hL
  unfold f_X1_isMadeOf_21
  refine KF.locals (lsub_le hL) ?_
  refine k_iconst (v := (nI 0)) hX rfl dX1_isMadeOf_21 ?_
  exact k_zret hX dX1_isMadeOf_22
set_option maxHeartbeats 4000000 in
set_option maxRecDepth 100000 in
theorem w_X1_isMadeOf_26 {l : Launch} {G : GL} {ad : Nat → Nat} {MM : Mem} {X : CT} (hX : Cx l { frames := 0, cells := 0, slots := 0, locals := 0 } cX1_isMadeOf RX1 7 (some .boolean) G ad X) : ∀ (n : Nat), ∀ (x1 : Int32) (x3 : Nat) (x4 : Int32) (x5 : Int32) (x6 : Int32) (hx3 : isRb x3 = true) (M : Mem) {L : List (Option Value)}, lsub [some (.ref (ad 1)), some (.int x1), none, some (.ref (ad x3)), some (.int x4), some (.int x5), some (.int x6)] L → KF l { frames := 0, cells := 0, slots := 0, locals := 0 } 7 G ad (EC G ad MM) (QP PostI G ad (EC G ad MM)) X (f_X1_isMadeOf_26 n x1 x3 x4 x5 x6 M) L 26 [] M := by
  intro n
  induction n with
  | zero =>
    intro x1 x3 x4 x5 x6 hx3 M L hL
    exact KF.none'
  | succ n ih =>
    intro x1 x3 x4 x5 x6 hx3 M L hL
    rw [f_X1_isMadeOf_26]
    refine KF.locals (lsub_le hL) ?_
    refine k_iload hX rfl dX1_isMadeOf_26 ?_
    refine k_iload hX rfl dX1_isMadeOf_28 ?_
    refine k_icmp_ge (tgt := 65) hX dX1_isMadeOf_30 (by decide) (fun b1 => ?_) (fun b1 => ?_)
    · refine k_iconst (v := (nI 1)) hX rfl dX1_isMadeOf_65 ?_
      exact k_zret hX dX1_isMadeOf_66
    refine k_aload_n hX (i := 0) rfl rfl dX1_isMadeOf_33 ?_
    refine k_get hX io_1 fl_X1_35 rfl dX1_isMadeOf_34 ?_
    refine k_aload_n hX (i := 0) rfl rfl dX1_isMadeOf_37 ?_
    refine k_get hX io_1 fl_X1_15 rfl dX1_isMadeOf_38 ?_
    refine k_iload_n hX (i := 1) rfl rfl dX1_isMadeOf_41 ?_
    refine k_ald hX ia_3 dX1_isMadeOf_42 (fun v2 => ?_)
    refine k_iload hX rfl dX1_isMadeOf_43 ?_
    refine k_iadd hX dX1_isMadeOf_45 ?_
    refine k_ald hX ia_9 dX1_isMadeOf_46 (fun v3 => ?_)
    refine k_aload_n hX (i := 3) rfl rfl dX1_isMadeOf_47 ?_
    refine k_iload hX rfl dX1_isMadeOf_48 ?_
    refine k_iload hX rfl dX1_isMadeOf_50 ?_
    refine k_iadd hX dX1_isMadeOf_52 ?_
    refine k_ald hX (ia_R hx3) dX1_isMadeOf_53 (fun v4 => ?_)
    refine k_icmp_eq (tgt := 59) hX dX1_isMadeOf_54 (by decide) (fun b5 => ?_) (fun b5 => ?_)
    · refine k_iinc (v := x6 + nI 1) (L' := [some (.ref (ad 1)), some (.int x1), none, some (.ref (ad x3)), some (.int x4), some (.int x5), some (.int (x6 + nI 1))]) hX (i := 6) rfl rfl (by decide) rfl dX1_isMadeOf_59 ?_
      refine k_goto (tgt := 26) hX dX1_isMadeOf_62 (by decide) ?_
      exact ih x1 x3 x4 x5 (x6 + nI 1) hx3 M ⟨rfl, rfl, rfl, rfl, rfl, rfl, trivial⟩
    refine k_iconst (v := (nI 0)) hX rfl dX1_isMadeOf_57 ?_
    exact k_zret hX dX1_isMadeOf_58
set_option maxHeartbeats 4000000 in
set_option maxRecDepth 100000 in
theorem w_X1_isMadeOf {l : Launch} {G : GL} {ad : Nat → Nat} {MM : Mem} {X : CT} (hX : Cx l { frames := 0, cells := 0, slots := 0, locals := 0 } cX1_isMadeOf RX1 7 (some .boolean) G ad X) {p1 : Int32} {p2 : Int32} {p3 : Nat} {p4 : Int32} {p5 : Int32} (hp3 : isRb p3 = true) {M : Mem} : KF l { frames := 0, cells := 0, slots := 0, locals := 0 } 7 G ad (EC G ad MM) (QP PostI G ad (EC G ad MM)) X (f_X1_isMadeOf p1 p2 p3 p4 p5 M) [some (.ref (ad 1)), some (.int p1), some (.int p2), some (.ref (ad p3)), some (.int p4), some (.int p5), none] 0 [] M := by
  unfold f_X1_isMadeOf
  refine k_aload_n hX (i := 0) rfl rfl dX1_isMadeOf_0 ?_
  refine k_get hX io_1 fl_X1_9 rfl dX1_isMadeOf_1 ?_
  refine k_iload_n hX (i := 1) rfl rfl dX1_isMadeOf_4 ?_
  refine k_ald hX ia_2 dX1_isMadeOf_5 (fun v1 => ?_)
  refine k_iload_n hX (i := 2) rfl rfl dX1_isMadeOf_6 ?_
  refine k_icmp_ne (tgt := 21) hX dX1_isMadeOf_7 (by decide) (fun b2 => ?_) (fun b2 => ?_)
  · exact w_X1_isMadeOf_21 hX M trivial
  refine k_aload_n hX (i := 0) rfl rfl dX1_isMadeOf_10 ?_
  refine k_get hX io_1 fl_X1_18 rfl dX1_isMadeOf_11 ?_
  refine k_iload_n hX (i := 1) rfl rfl dX1_isMadeOf_14 ?_
  refine k_ald hX ia_4 dX1_isMadeOf_15 (fun v3 => ?_)
  refine k_iload hX rfl dX1_isMadeOf_16 ?_
  refine k_icmp_eq (tgt := 23) hX dX1_isMadeOf_18 (by decide) (fun b4 => ?_) (fun b4 => ?_)
  · refine k_iconst (v := (nI 0)) hX rfl dX1_isMadeOf_23 ?_
    refine k_istore (L' := [some (.ref (ad 1)), some (.int p1), some (.int p2), some (.ref (ad p3)), some (.int p4), some (.int p5), some (.int (nI 0))]) hX (by decide) rfl dX1_isMadeOf_24 ?_
    exact w_X1_isMadeOf_26 hX fuelN p1 p3 p4 p5 (nI 0) hp3 M ⟨rfl, rfl, rfl, rfl, rfl, rfl, trivial⟩
  exact w_X1_isMadeOf_21 hX M trivial
set_option maxRecDepth 100000 in
theorem m_X1_isMadeOf {l : Launch} {G : GL} {ad : Nat → Nat} {MM : Mem} (hAd : AdOK G ad) {p1 : Int32} {p2 : Int32} {p3 : Nat} {p4 : Int32} {p5 : Int32} (hp3 : isRb p3 = true) {M : Mem} {r : Rv} (h : f_X1_isMadeOf p1 p2 p3 p4 p5 M = some r) : Ct PostI l G ad (EC G ad MM) yX1_isMadeOf cX1_isMadeOf 7 (some .boolean) 0 0 [.ref (ad 1), .int p1, .int p2, .ref (ad p3), .int p4, .int p5] M r := ct_of' hAd (by decide +kernel) (List.forall_mem_cons.mpr ⟨rfl, (List.forall_mem_cons.mpr ⟨rfl, (List.forall_mem_cons.mpr ⟨rfl, (List.forall_mem_cons.mpr ⟨rfl, (List.forall_mem_cons.mpr ⟨rfl, (List.forall_mem_cons.mpr ⟨rfl, (fun _ h => absurd h List.not_mem_nil)⟩)⟩)⟩)⟩)⟩)⟩) (Nat.le_of_ble_eq_true rfl) (L := [some (.ref (ad 1)), some (.int p1), some (.int p2), some (.ref (ad p3)), some (.int p4), some (.int p5), none]) rfl (fun _ hX => w_X1_isMadeOf hX hp3) h
set_option maxHeartbeats 4000000 in
set_option maxRecDepth 100000 in
theorem w_X1_make_13 {l : Launch} {G : GL} {ad : Nat → Nat} {MM : Mem} {X : CT} (hX : Cx l { frames := 1, cells := 0, slots := 0, locals := 28 } cX1_make RX1 9 (some .int) G ad X) : ∀ (M : Mem) {L : List (Option Value)}, lsub [none, none, none, none, none, none, none, none, none] L → KF l { frames := 1, cells := 0, slots := 0, locals := 28 } 9 G ad (EC G ad MM) (QP PostI G ad (EC G ad MM)) X (f_X1_make_13 M) L 13 [] M := by
  intro M L hL
  unfold f_X1_make_13
  refine KF.locals (lsub_le hL) ?_
  refine k_iconst (v := (nI 0)) hX rfl dX1_make_13 ?_
  exact k_iret hX dX1_make_14
set_option maxHeartbeats 4000000 in
set_option maxRecDepth 100000 in
theorem w_X1_make_142 {l : Launch} {G : GL} {ad : Nat → Nat} {MM : Mem} {X : CT} (hX : Cx l { frames := 1, cells := 0, slots := 0, locals := 28 } cX1_make RX1 9 (some .int) G ad X) : ∀ (M : Mem) {L : List (Option Value)}, lsub [none, none, none, none, none, none, none, none, none] L → KF l { frames := 1, cells := 0, slots := 0, locals := 28 } 9 G ad (EC G ad MM) (QP PostI G ad (EC G ad MM)) X (f_X1_make_142 M) L 142 [] M := by
  intro M L hL
  unfold f_X1_make_142
  refine KF.locals (lsub_le hL) ?_
  refine k_iconst (v := (nI 0)) hX rfl dX1_make_142 ?_
  exact k_iret hX dX1_make_143
set_option maxHeartbeats 4000000 in
set_option maxRecDepth 100000 in
theorem w_X1_make_119 {l : Launch} {G : GL} {ad : Nat → Nat} {MM : Mem} {X : CT} (hX : Cx l { frames := 1, cells := 0, slots := 0, locals := 28 } cX1_make RX1 9 (some .int) G ad X) : ∀ (x1 : Int32) (x2 : Nat) (x3 : Int32) (x4 : Int32) (x6 : Int32) (hx2 : isRb x2 = true) (M : Mem) {L : List (Option Value)}, lsub [some (.ref (ad 1)), some (.int x1), some (.ref (ad x2)), some (.int x3), some (.int x4), none, some (.int x6), none, none] L → KF l { frames := 1, cells := 0, slots := 0, locals := 28 } 9 G ad (EC G ad MM) (QP PostI G ad (EC G ad MM)) X (f_X1_make_119 x1 x2 x3 x4 x6 M) L 119 [] M := by
  intro x1 x2 x3 x4 x6 hx2 M L hL
  unfold f_X1_make_119
  refine KF.locals (lsub_le hL) ?_
  refine k_aload_n hX (i := 0) rfl rfl dX1_make_119 ?_
  refine k_get hX io_1 fl_X1_47 rfl dX1_make_120 ?_
  refine k_sipush (v := (nI 2048)) hX rfl dX1_make_123 ?_
  refine k_icmp_ge (tgt := 142) hX dX1_make_126 (by decide) (fun b1 => ?_) (fun b1 => ?_)
  · exact w_X1_make_142 hX M trivial
  refine k_iload hX rfl dX1_make_129 ?_
  refine k_sipush (v := (nI 8192)) hX rfl dX1_make_131 ?_
  refine k_aload_n hX (i := 0) rfl rfl dX1_make_134 ?_
  refine k_get hX io_1 fl_X1_54 rfl dX1_make_135 ?_
  refine k_isub hX dX1_make_138 ?_
  refine k_icmp_le (tgt := 144) hX dX1_make_139 (by decide) (fun b2 => ?_) (fun b2 => ?_)
  · refine k_aload_n hX (i := 0) rfl rfl dX1_make_144 ?_
    refine k_get hX io_1 fl_X1_47 rfl dX1_make_145 ?_
    refine k_istore (L' := [some (.ref (ad 1)), some (.int x1), some (.ref (ad x2)), some (.int x3), some (.int x4), none, some (.int x6), none, some (.int (M 1 11))]) hX (by decide) rfl dX1_make_148 ?_
    refine k_aload_n hX (i := 0) rfl rfl dX1_make_150 ?_
    refine k_dup hX rfl dX1_make_151 ?_
    refine k_get hX io_1 fl_X1_47 rfl dX1_make_152 ?_
    refine k_iconst (v := (nI 1)) hX rfl dX1_make_155 ?_
    refine k_iadd hX dX1_make_156 ?_
    refine k_puti hX locC io_1 fp_X1_47 (Nat.le_of_ble_eq_true rfl) rfl dX1_make_157 (fun M3 => ?_)
    refine k_aload_n hX (i := 0) rfl rfl dX1_make_160 ?_
    refine k_get hX io_1 fl_X1_44 rfl dX1_make_161 ?_
    refine k_iload hX rfl dX1_make_164 ?_
    refine k_iload hX rfl dX1_make_166 ?_
    refine k_ast hX locC ia_12 dX1_make_168 (fun M4 => ?_)
    refine k_aload_n hX (i := 0) rfl rfl dX1_make_169 ?_
    refine k_get hX io_1 fl_X1_41 rfl dX1_make_170 ?_
    refine k_iload hX rfl dX1_make_173 ?_
    refine k_aload_n hX (i := 0) rfl rfl dX1_make_175 ?_
    refine k_get hX io_1 fl_X1_38 rfl dX1_make_176 ?_
    refine k_iload hX rfl dX1_make_179 ?_
    refine k_ald hX ia_10 dX1_make_181 (fun v5 => ?_)
    refine k_ast hX locC ia_11 dX1_make_182 (fun M6 => ?_)
    refine k_aload_n hX (i := 0) rfl rfl dX1_make_183 ?_
    refine k_get hX io_1 fl_X1_38 rfl dX1_make_184 ?_
    refine k_iload hX rfl dX1_make_187 ?_
    refine k_iload hX rfl dX1_make_189 ?_
    refine k_ast hX locC ia_10 dX1_make_191 (fun M7 => ?_)
    refine k_aload_n hX (i := 0) rfl rfl dX1_make_192 ?_
    refine k_get hX io_1 fl_X1_9 rfl dX1_make_193 ?_
    refine k_iload hX rfl dX1_make_196 ?_
    refine k_iload_n hX (i := 1) rfl rfl dX1_make_198 ?_
    refine k_ast hX locC ia_2 dX1_make_199 (fun M8 => ?_)
    refine k_aload_n hX (i := 0) rfl rfl dX1_make_200 ?_
    refine k_get hX io_1 fl_X1_15 rfl dX1_make_201 ?_
    refine k_iload hX rfl dX1_make_204 ?_
    refine k_aload_n hX (i := 0) rfl rfl dX1_make_206 ?_
    refine k_get hX io_1 fl_X1_54 rfl dX1_make_207 ?_
    refine k_ast hX locC ia_3 dX1_make_210 (fun M9 => ?_)
    refine k_aload_n hX (i := 0) rfl rfl dX1_make_211 ?_
    refine k_get hX io_1 fl_X1_18 rfl dX1_make_212 ?_
    refine k_iload hX rfl dX1_make_215 ?_
    refine k_iload hX rfl dX1_make_217 ?_
    refine k_ast hX locC ia_4 dX1_make_219 (fun M10 => ?_)
    refine k_aload_n hX (i := 2) rfl rfl dX1_make_220 ?_
    refine k_iload_n hX (i := 3) rfl rfl dX1_make_221 ?_
    refine k_aload_n hX (i := 0) rfl rfl dX1_make_222 ?_
    refine k_get hX io_1 fl_X1_35 rfl dX1_make_223 ?_
    refine k_aload_n hX (i := 0) rfl rfl dX1_make_226 ?_
    refine k_get hX io_1 fl_X1_54 rfl dX1_make_227 ?_
    refine k_iload hX rfl dX1_make_230 ?_
    refine k_copy hX locC (ia_R hx2) ia_9 w_ac_X1 w_acn w_acs w_aci (Nat.le_of_ble_eq_true rfl) (Nat.le_of_ble_eq_true rfl) dX1_make_232 (fun M11 => ?_)
    refine k_aload_n hX (i := 0) rfl rfl dX1_make_235 ?_
    refine k_dup hX rfl dX1_make_236 ?_
    refine k_get hX io_1 fl_X1_54 rfl dX1_make_237 ?_
    refine k_iload hX rfl dX1_make_240 ?_
    refine k_iadd hX dX1_make_242 ?_
    refine k_puti hX locC io_1 fp_X1_54 (Nat.le_of_ble_eq_true rfl) rfl dX1_make_243 (fun M12 => ?_)
    refine k_aload_n hX (i := 0) rfl rfl dX1_make_246 ?_
    refine k_iload hX rfl dX1_make_247 ?_
    refine k_callVV (vs := [.int (M 1 11)]) hX (fun _ h9 => m_X1_describe hX.2.2.2.2.2.2.1  h9) io_1 rfl ml_X1_67 ⟨Nat.le_of_ble_eq_true rfl, Nat.le_of_ble_eq_true rfl⟩ rfl rfl (Nat.le_of_ble_eq_true rfl) dX1_make_249 (fun q13 => ?_)
    refine k_iload hX rfl dX1_make_252 ?_
    exact k_iret hX dX1_make_254
  exact w_X1_make_142 hX M trivial
set_option maxHeartbeats 4000000 in
set_option maxRecDepth 100000 in
theorem w_X1_make_74 {l : Launch} {G : GL} {ad : Nat → Nat} {MM : Mem} {X : CT} (hX : Cx l { frames := 1, cells := 0, slots := 0, locals := 28 } cX1_make RX1 9 (some .int) G ad X) : ∀ (n : Nat), ∀ (x1 : Int32) (x2 : Nat) (x3 : Int32) (x4 : Int32) (x6 : Int32) (x7 : Int32) (x8 : Int32) (hx2 : isRb x2 = true) (M : Mem) {L : List (Option Value)}, lsub [some (.ref (ad 1)), some (.int x1), some (.ref (ad x2)), some (.int x3), some (.int x4), none, some (.int x6), some (.int x7), some (.int x8)] L → KF l { frames := 1, cells := 0, slots := 0, locals := 28 } 9 G ad (EC G ad MM) (QP PostI G ad (EC G ad MM)) X (f_X1_make_74 n x1 x2 x3 x4 x6 x7 x8 M) L 74 [] M := by
  intro n
  induction n with
  | zero =>
    intro x1 x2 x3 x4 x6 x7 x8 hx2 M L hL
    exact KF.none'
  | succ n ih =>
    intro x1 x2 x3 x4 x6 x7 x8 hx2 M L hL
    rw [f_X1_make_74]
    refine KF.locals (lsub_le hL) ?_
    refine k_iload hX rfl dX1_make_74 ?_
    refine k_sipush (v := (nI 2048)) hX rfl dX1_make_76 ?_
    refine k_icmp_ge (tgt := 119) hX dX1_make_79 (by decide) (fun b1 => ?_) (fun b1 => ?_)
    · exact w_X1_make_119 hX x1 x2 x3 x4 x6 hx2 M ⟨rfl, rfl, rfl, rfl, rfl, rfl, trivial⟩
    refine k_iload hX rfl dX1_make_82 ?_
    refine k_if_eq (tgt := 119) hX dX1_make_84 (by decide) (fun b2 => ?_) (fun b2 => ?_)
    · exact w_X1_make_119 hX x1 x2 x3 x4 x6 hx2 M ⟨rfl, rfl, rfl, rfl, rfl, rfl, trivial⟩
    refine k_aload_n hX (i := 0) rfl rfl dX1_make_87 ?_
    refine k_iload hX rfl dX1_make_88 ?_
    refine k_iload_n hX (i := 1) rfl rfl dX1_make_90 ?_
    refine k_aload_n hX (i := 2) rfl rfl dX1_make_91 ?_
    refine k_iload_n hX (i := 3) rfl rfl dX1_make_92 ?_
    refine k_iload hX rfl dX1_make_93 ?_
    refine k_callVI (vs := [.int x7, .int x1, .ref (ad x2), .int x3, .int x4]) hX (fun _ h9 => m_X1_isMadeOf hX.2.2.2.2.2.2.1 hx2 h9) io_1 rfl ml_X1_57 ⟨Nat.le_of_ble_eq_true rfl, Nat.le_of_ble_eq_true rfl⟩ rfl rfl (Nat.le_of_ble_eq_true rfl) dX1_make_95 (fun q3 => ?_)
    refine k_if_eq (tgt := 104) hX dX1_make_98 (by decide) (fun b4 => ?_) (fun b4 => ?_)
    · refine k_aload_n hX (i := 0) rfl rfl dX1_make_104 ?_
      refine k_get hX io_1 fl_X1_41 rfl dX1_make_105 ?_
      refine k_iload hX rfl dX1_make_108 ?_
      refine k_ald hX ia_11 dX1_make_110 (fun v5 => ?_)
      refine k_istore (L' := [some (.ref (ad 1)), some (.int x1), some (.ref (ad x2)), some (.int x3), some (.int x4), none, some (.int x6), some (.int v5), some (.int x8)]) hX (by decide) rfl dX1_make_111 ?_
      refine k_iinc (v := x8 + nI 1) (L' := [some (.ref (ad 1)), some (.int x1), some (.ref (ad x2)), some (.int x3), some (.int x4), none, some (.int x6), some (.int v5), some (.int (x8 + nI 1))]) hX (i := 8) rfl rfl (by decide) rfl dX1_make_113 ?_
      refine k_goto (tgt := 74) hX dX1_make_116 (by decide) ?_
      exact ih x1 x2 x3 x4 x6 v5 (x8 + nI 1) hx2 q3.2 ⟨rfl, rfl, rfl, rfl, rfl, rfl, rfl, rfl, trivial⟩
    refine k_iload hX rfl dX1_make_101 ?_
    exact k_iret hX dX1_make_103
set_option maxHeartbeats 4000000 in
set_option maxRecDepth 100000 in
theorem w_X1_make_21 {l : Launch} {G : GL} {ad : Nat → Nat} {MM : Mem} {X : CT} (hX : Cx l { frames := 1, cells := 0, slots := 0, locals := 28 } cX1_make RX1 9 (some .int) G ad X) : ∀ (n : Nat), ∀ (x1 : Int32) (x2 : Nat) (x3 : Int32) (x4 : Int32) (x5 : Int32) (x6 : Int32) (hx2 : isRb x2 = true) (M : Mem) {L : List (Option Value)}, lsub [some (.ref (ad 1)), some (.int x1), some (.ref (ad x2)), some (.int x3), some (.int x4), some (.int x5), some (.int x6), none, none] L → KF l { frames := 1, cells := 0, slots := 0, locals := 28 } 9 G ad (EC G ad MM) (QP PostI G ad (EC G ad MM)) X (f_X1_make_21 n x1 x2 x3 x4 x5 x6 M) L 21 [] M := by
  intro n
  induction n with
  | zero =>
    intro x1 x2 x3 x4 x5 x6 hx2 M L hL
    exact KF.none'
  | succ n ih =>
    intro x1 x2 x3 x4 x5 x6 hx2 M L hL
    rw [f_X1_make_21]
    refine KF.locals (lsub_le hL) ?_
    refine k_iload hX rfl dX1_make_21 ?_
    refine k_iload hX rfl dX1_make_23 ?_
    refine k_icmp_ge (tgt := 48) hX dX1_make_25 (by decide) (fun b1 => ?_) (fun b1 => ?_)
    · refine k_iload hX rfl dX1_make_48 ?_
      refine k_iload hX rfl dX1_make_50 ?_
      refine k_bipush (v := (nI 9)) hX rfl dX1_make_52 ?_
      refine k_iushr hX dX1_make_54 ?_
      refine k_ixor hX dX1_make_55 ?_
      refine k_sipush (v := (nI 511)) hX rfl dX1_make_56 ?_
      refine k_iand hX dX1_make_59 ?_
      refine k_istore (L' := [some (.ref (ad 1)), some (.int x1), some (.ref (ad x2)), some (.int x3), some (.int x4), some (.int x5), some (.int ((x5 ^^^ (mushr x5 (nI 9))) &&& (nI 511))), none, none]) hX (by decide) rfl dX1_make_60 ?_
      refine k_aload_n hX (i := 0) rfl rfl dX1_make_62 ?_
      refine k_get hX io_1 fl_X1_38 rfl dX1_make_63 ?_
      refine k_iload hX rfl dX1_make_66 ?_
      refine k_ald hX ia_10 dX1_make_68 (fun v2 => ?_)
      refine k_istore (L' := [some (.ref (ad 1)), some (.int x1), some (.ref (ad x2)), some (.int x3), some (.int x4), some (.int x5), some (.int ((x5 ^^^ (mushr x5 (nI 9))) &&& (nI 511))), some (.int v2), none]) hX (by decide) rfl dX1_make_69 ?_
      refine k_iconst (v := (nI 0)) hX rfl dX1_make_71 ?_
      refine k_istore (L' := [some (.ref (ad 1)), some (.int x1), some (.ref (ad x2)), some (.int x3), some (.int x4), some (.int x5), some (.int ((x5 ^^^ (mushr x5 (nI 9))) &&& (nI 511))), some (.int v2), some (.int (nI 0))]) hX (by decide) rfl dX1_make_72 ?_
      exact w_X1_make_74 hX fuelN x1 x2 x3 x4 ((x5 ^^^ (mushr x5 (nI 9))) &&& (nI 511)) v2 (nI 0) hx2 M ⟨rfl, rfl, rfl, rfl, rfl, rfl, rfl, rfl, trivial⟩
    refine k_iload hX rfl dX1_make_28 ?_
    refine k_bipush (v := (nI 31)) hX rfl dX1_make_30 ?_
    refine k_imul hX dX1_make_32 ?_
    refine k_aload_n hX (i := 2) rfl rfl dX1_make_33 ?_
    refine k_iload_n hX (i := 3) rfl rfl dX1_make_34 ?_
    refine k_iload hX rfl dX1_make_35 ?_
    refine k_iadd hX dX1_make_37 ?_
    refine k_ald hX (ia_R hx2) dX1_make_38 (fun v3 => ?_)
    refine k_iadd hX dX1_make_39 ?_
    refine k_istore (L' := [some (.ref (ad 1)), some (.int x1), some (.ref (ad x2)), some (.int x3), some (.int x4), some (.int ((x5 * (nI 31)) + v3)), some (.int x6), none, none]) hX (by decide) rfl dX1_make_40 ?_
    refine k_iinc (v := x6 + nI 1) (L' := [some (.ref (ad 1)), some (.int x1), some (.ref (ad x2)), some (.int x3), some (.int x4), some (.int ((x5 * (nI 31)) + v3)), some (.int (x6 + nI 1)), none, none]) hX (i := 6) rfl rfl (by decide) rfl dX1_make_42 ?_
    refine k_goto (tgt := 21) hX dX1_make_45 (by decide) ?_
    exact ih x1 x2 x3 x4 ((x5 * (nI 31)) + v3) (x6 + nI 1) hx2 M ⟨rfl, rfl, rfl, rfl, rfl, rfl, rfl, trivial⟩
set_option maxHeartbeats 4000000 in
set_option maxRecDepth 100000 in
theorem w_X1_make {l : Launch} {G : GL} {ad : Nat → Nat} {MM : Mem} {X : CT} (hX : Cx l { frames := 1, cells := 0, slots := 0, locals := 28 } cX1_make RX1 9 (some .int) G ad X) {p1 : Int32} {p2 : Nat} {p3 : Int32} {p4 : Int32} (hp2 : isRb p2 = true) {M : Mem} : KF l { frames := 1, cells := 0, slots := 0, locals := 28 } 9 G ad (EC G ad MM) (QP PostI G ad (EC G ad MM)) X (f_X1_make p1 p2 p3 p4 M) [some (.ref (ad 1)), some (.int p1), some (.ref (ad p2)), some (.int p3), some (.int p4), none, none, none, none] 0 [] M := by
  unfold f_X1_make
  refine k_iload_n hX (i := 3) rfl rfl dX1_make_0 ?_
  refine k_if_lt (tgt := 13) hX dX1_make_1 (by decide) (fun b1 => ?_) (fun b1 => ?_)
  · exact w_X1_make_13 hX M trivial
  refine k_iload hX rfl dX1_make_4 ?_
  refine k_aload_n hX (i := 2) rfl rfl dX1_make_6 ?_
  refine k_alen (v := nI (rlen p2)) hX (ia_R hp2) (by decide) rfl dX1_make_7 ?_
  refine k_iload_n hX (i := 3) rfl rfl dX1_make_8 ?_
  refine k_isub hX dX1_make_9 ?_
  refine k_icmp_le (tgt := 15) hX dX1_make_10 (by decide) (fun b2 => ?_) (fun b2 => ?_)
  · refine k_iload_n hX (i := 1) rfl rfl dX1_make_15 ?_
    refine k_istore (L' := [some (.ref (ad 1)), some (.int p1), some (.ref (ad p2)), some (.int p3), some (.int p4), some (.int p1), none, none, none]) hX (by decide) rfl dX1_make_16 ?_
    refine k_iconst (v := (nI 0)) hX rfl dX1_make_18 ?_
    refine k_istore (L' := [some (.ref (ad 1)), some (.int p1), some (.ref (ad p2)), some (.int p3), some (.int p4), some (.int p1), some (.int (nI 0)), none, none]) hX (by decide) rfl dX1_make_19 ?_
    exact w_X1_make_21 hX fuelN p1 p2 p3 p4 p1 (nI 0) hp2 M ⟨rfl, rfl, rfl, rfl, rfl, rfl, rfl, trivial⟩
  exact w_X1_make_13 hX M trivial
set_option maxRecDepth 100000 in
theorem m_X1_make {l : Launch} {G : GL} {ad : Nat → Nat} {MM : Mem} (hAd : AdOK G ad) {p1 : Int32} {p2 : Nat} {p3 : Int32} {p4 : Int32} (hp2 : isRb p2 = true) {M : Mem} {r : Rv} (h : f_X1_make p1 p2 p3 p4 M = some r) : Ct PostI l G ad (EC G ad MM) yX1_make cX1_make 9 (some .int) 1 28 [.ref (ad 1), .int p1, .ref (ad p2), .int p3, .int p4] M r := ct_of' hAd (by decide +kernel) (List.forall_mem_cons.mpr ⟨rfl, (List.forall_mem_cons.mpr ⟨rfl, (List.forall_mem_cons.mpr ⟨rfl, (List.forall_mem_cons.mpr ⟨rfl, (List.forall_mem_cons.mpr ⟨rfl, (fun _ h => absurd h List.not_mem_nil)⟩)⟩)⟩)⟩)⟩) (Nat.le_of_ble_eq_true rfl) (L := [some (.ref (ad 1)), some (.int p1), some (.ref (ad p2)), some (.int p3), some (.int p4), none, none, none, none]) rfl (fun _ hX => w_X1_make hX hp2) h
set_option maxHeartbeats 4000000 in
set_option maxRecDepth 100000 in
theorem w_X0_done_83 {l : Launch} {G : GL} {ad : Nat → Nat} {MM : Mem} {X : CT} (hX : Cx l { frames := 2, cells := 0, slots := 0, locals := 56 } cX0_done RX0 6 (some .int) G ad X) : ∀ (x2 : Int32) (M : Mem) {L : List (Option Value)}, lsub [none, none, some (.int x2), none, none, none] L → KF l { frames := 2, cells := 0, slots := 0, locals := 56 } 6 G ad (EC G ad MM) (QP PostI G ad (EC G ad MM)) X (f_X0_done_83 x2 M) L 83 [] M := by
  intro x2 M L hL
  unfold f_X0_done_83
  refine KF.locals (lsub_le hL) ?_
  refine k_iload_n hX (i := 2) rfl rfl dX0_done_83 ?_
  exact k_iret hX dX0_done_84
set_option maxHeartbeats 4000000 in
set_option maxRecDepth 100000 in
theorem w_X0_done_131 {l : Launch} {G : GL} {ad : Nat → Nat} {MM : Mem} {X : CT} (hX : Cx l { frames := 2, cells := 0, slots := 0, locals := 56 } cX0_done RX0 6 (some .int) G ad X) : ∀ (s0 : Int32) (M : Mem) {L : List (Option Value)}, lsub [none, none, none, none, none, none] L → KF l { frames := 2, cells := 0, slots := 0, locals := 56 } 6 G ad (EC G ad MM) (QP PostI G ad (EC G ad MM)) X (f_X0_done_131 s0 M) L 131 [.int s0] M := by
  intro s0 M L hL
  unfold f_X0_done_131
  refine KF.locals (lsub_le hL) ?_
  exact k_iret hX dX0_done_131
set_option maxHeartbeats 4000000 in
set_option maxRecDepth 100000 in
theorem w_X0_done_67 {l : Launch} {G : GL} {ad : Nat → Nat} {MM : Mem} {X : CT} (hX : Cx l { frames := 2, cells := 0, slots := 0, locals := 56 } cX0_done RX0 6 (some .int) G ad X) : ∀ (x1 : Int32) (x2 : Int32) (x3 : Int32) (x4 : Int32) (s0 : Int32) (M : Mem) {L : List (Option Value)}, lsub [some (.ref (ad 13)), some (.int x1), some (.int x2), some (.int x3), some (.int x4), none] L → KF l { frames := 2, cells := 0, slots := 0, locals := 56 } 6 G ad (EC G ad MM) (QP PostI G ad (EC G ad MM)) X (f_X0_done_67 x1 x2 x3 x4 s0 M) L 67 [.int s0] M := by
  intro x1 x2 x3 x4 s0 M L hL
  unfold f_X0_done_67
  refine KF.locals (lsub_le hL) ?_
  refine k_istore (L' := [some (.ref (ad 13)), some (.int x1), some (.int x2), some (.int x3), some (.int x4), some (.int s0)]) hX (by decide) rfl dX0_done_67 ?_
  refine k_iload_n hX (i := 3) rfl rfl dX0_done_69 ?_
  refine k_if_ne (tgt := 83) hX dX0_done_70 (by decide) (fun b1 => ?_) (fun b1 => ?_)
  · exact w_X0_done_83 hX x2 M ⟨rfl, trivial⟩
  refine k_iload hX rfl dX0_done_73 ?_
  refine k_if_ne (tgt := 83) hX dX0_done_75 (by decide) (fun b2 => ?_) (fun b2 => ?_)
  · exact w_X0_done_83 hX x2 M ⟨rfl, trivial⟩
  refine k_iload hX rfl dX0_done_78 ?_
  refine k_if_eq (tgt := 85) hX dX0_done_80 (by decide) (fun b3 => ?_) (fun b3 => ?_)
  · refine k_aload_n hX (i := 0) rfl rfl dX0_done_85 ?_
    refine k_get hX io_13 fl_X0_29 rfl dX0_done_86 ?_
    refine k_if_ne (tgt := 94) hX dX0_done_89 (by decide) (fun b4 => ?_) (fun b4 => ?_)
    · refine k_aload_n hX (i := 0) rfl rfl dX0_done_94 ?_
      refine k_get hX io_13 fl_X0_29 rfl dX0_done_95 ?_
      refine k_iconst (v := (nI 1)) hX rfl dX0_done_98 ?_
      refine k_icmp_ne (tgt := 111) hX dX0_done_99 (by decide) (fun b5 => ?_) (fun b5 => ?_)
      · refine k_aload_n hX (i := 0) rfl rfl dX0_done_111 ?_
        refine k_get hX io_13 fl_X0_21 rfl dX0_done_112 ?_
        refine k_aload_n hX (i := 0) rfl rfl dX0_done_115 ?_
        refine k_get hX io_13 fl_X0_25 rfl dX0_done_116 ?_
        refine k_aload_n hX (i := 0) rfl rfl dX0_done_119 ?_
        refine k_get hX io_13 fl_X0_15 rfl dX0_done_120 ?_
        refine k_iconst (v := (nI 0)) hX rfl dX0_done_123 ?_
        refine k_aload_n hX (i := 0) rfl rfl dX0_done_124 ?_
        refine k_get hX io_13 fl_X0_29 rfl dX0_done_125 ?_
        refine k_callVI (vs := [.int (M 13 4), .ref (ad 15), .int (nI 0), .int (M 13 5)]) hX (fun _ h9 => m_X1_make hX.2.2.2.2.2.2.1 (by decide) h9) io_1 rfl ml_X0_60 ⟨Nat.le_of_ble_eq_true rfl, Nat.le_of_ble_eq_true rfl⟩ rfl rfl (Nat.le_of_ble_eq_true rfl) dX0_done_128 (fun q6 => ?_)
        exact w_X0_done_131 hX q6.1 q6.2 trivial
      refine k_aload_n hX (i := 0) rfl rfl dX0_done_102 ?_
      refine k_get hX io_13 fl_X0_15 rfl dX0_done_103 ?_
      refine k_iconst (v := (nI 0)) hX rfl dX0_done_106 ?_
      refine k_ald hX ia_15 dX0_done_107 (fun v7 => ?_)
      refine k_goto (tgt := 131) hX dX0_done_108 (by decide) ?_
      exact w_X0_done_131 hX v7 M trivial
    refine k_iload_n hX (i := 1) rfl rfl dX0_done_92 ?_
    exact k_iret hX dX0_done_93
  exact w_X0_done_83 hX x2 M ⟨rfl, trivial⟩
set_option maxHeartbeats 4000000 in
set_option maxRecDepth 100000 in
theorem w_X0_done_43 {l : Launch} {G : GL} {ad : Nat → Nat} {MM : Mem} {X : CT} (hX : Cx l { frames := 2, cells := 0, slots := 0, locals := 56 } cX0_done RX0 6 (some .int) G ad X) : ∀ (x1 : Int32) (x2 : Int32) (x3 : Int32) (s0 : Int32) (M : Mem) {L : List (Option Value)}, lsub [some (.ref (ad 13)), some (.int x1), some (.int x2), some (.int x3), none, none] L → KF l { frames := 2, cells := 0, slots := 0, locals := 56 } 6 G ad (EC G ad MM) (QP PostI G ad (EC G ad MM)) X (f_X0_done_43 x1 x2 x3 s0 M) L 43 [.int s0] M := by
  intro x1 x2 x3 s0 M L hL
  unfold f_X0_done_43
  refine KF.locals (lsub_le hL) ?_
  refine k_istore (L' := [some (.ref (ad 13)), some (.int x1), some (.int x2), some (.int x3), some (.int s0), none]) hX (by decide) rfl dX0_done_43 ?_
  refine k_aload_n hX (i := 0) rfl rfl dX0_done_45 ?_
  refine k_get hX io_13 fl_X0_32 rfl dX0_done_46 ?_
  refine k_iconst (v := (nI 4)) hX rfl dX0_done_49 ?_
  refine k_ishr hX dX0_done_50 ?_
  refine k_aload_n hX (i := 0) rfl rfl dX0_done_51 ?_
  refine k_get hX io_13 fl_X0_32 rfl dX0_done_52 ?_
  refine k_bipush (v := (nI 10)) hX rfl dX0_done_55 ?_
  refine k_ishr hX dX0_done_57 ?_
  refine k_iand hX dX0_done_58 ?_
  refine k_if_eq (tgt := 66) hX dX0_done_59 (by decide) (fun b1 => ?_) (fun b1 => ?_)
  · refine k_iconst (v := (nI 0)) hX rfl dX0_done_66 ?_
    exact w_X0_done_67 hX x1 x2 x3 s0 (nI 0) M ⟨rfl, rfl, rfl, rfl, rfl, trivial⟩
  refine k_iconst (v := (nI 1)) hX rfl dX0_done_62 ?_
  refine k_goto (tgt := 67) hX dX0_done_63 (by decide) ?_
  exact w_X0_done_67 hX x1 x2 x3 s0 (nI 1) M ⟨rfl, rfl, rfl, rfl, rfl, trivial⟩
set_option maxHeartbeats 4000000 in
set_option maxRecDepth 100000 in
theorem w_X0_done_25 {l : Launch} {G : GL} {ad : Nat → Nat} {MM : Mem} {X : CT} (hX : Cx l { frames := 2, cells := 0, slots := 0, locals := 56 } cX0_done RX0 6 (some .int) G ad X) : ∀ (x1 : Int32) (x2 : Int32) (s0 : Int32) (M : Mem) {L : List (Option Value)}, lsub [some (.ref (ad 13)), some (.int x1), some (.int x2), none, none, none] L → KF l { frames := 2, cells := 0, slots := 0, locals := 56 } 6 G ad (EC G ad MM) (QP PostI G ad (EC G ad MM)) X (f_X0_done_25 x1 x2 s0 M) L 25 [.int s0] M := by
  intro x1 x2 s0 M L hL
  unfold f_X0_done_25
  refine KF.locals (lsub_le hL) ?_
  refine k_istore_n (L' := [some (.ref (ad 13)), some (.int x1), some (.int x2), some (.int s0), none, none]) hX (i := 3) rfl (by decide) rfl dX0_done_25 ?_
  refine k_aload_n hX (i := 0) rfl rfl dX0_done_26 ?_
  refine k_get hX io_13 fl_X0_32 rfl dX0_done_27 ?_
  refine k_bipush (v := (nI 12)) hX rfl dX0_done_30 ?_
  refine k_iand hX dX0_done_32 ?_
  refine k_bipush (v := (nI 12)) hX rfl dX0_done_33 ?_
  refine k_icmp_ne (tgt := 42) hX dX0_done_35 (by decide) (fun b1 => ?_) (fun b1 => ?_)
  · refine k_iconst (v := (nI 0)) hX rfl dX0_done_42 ?_
    exact w_X0_done_43 hX x1 x2 s0 (nI 0) M ⟨rfl, rfl, rfl, rfl, trivial⟩
  refine k_iconst (v := (nI 1)) hX rfl dX0_done_38 ?_
  refine k_goto (tgt := 43) hX dX0_done_39 (by decide) ?_
  exact w_X0_done_43 hX x1 x2 s0 (nI 1) M ⟨rfl, rfl, rfl, rfl, trivial⟩
set_option maxHeartbeats 4000000 in
set_option maxRecDepth 100000 in
theorem w_X0_done {l : Launch} {G : GL} {ad : Nat → Nat} {MM : Mem} {X : CT} (hX : Cx l { frames := 2, cells := 0, slots := 0, locals := 56 } cX0_done RX0 6 (some .int) G ad X) {M : Mem} : KF l { frames := 2, cells := 0, slots := 0, locals := 56 } 6 G ad (EC G ad MM) (QP PostI G ad (EC G ad MM)) X (f_X0_done M) [some (.ref (ad 13)), none, none, none, none, none] 0 [] M := by
  unfold f_X0_done
  refine k_aload_n hX (i := 0) rfl rfl dX0_done_0 ?_
  refine k_callVI (vs := []) hX (fun _ h9 => m_X0_neutral hX.2.2.2.2.2.2.1  h9) io_13 rfl ml_X0_50 ⟨Nat.le_of_ble_eq_true rfl, Nat.le_of_ble_eq_true rfl⟩ rfl rfl (Nat.le_of_ble_eq_true rfl) dX0_done_1 (fun q1 => ?_)
  refine k_istore_n (L' := [some (.ref (ad 13)), some (.int q1.1), none, none, none, none]) hX (i := 1) rfl (by decide) rfl dX0_done_4 ?_
  refine k_iconst (v := (nI 1)) hX rfl dX0_done_5 ?_
  refine k_iload_n hX (i := 1) rfl rfl dX0_done_6 ?_
  refine k_isub hX dX0_done_7 ?_
  refine k_istore_n (L' := [some (.ref (ad 13)), some (.int q1.1), some (.int ((nI 1) - q1.1)), none, none, none]) hX (i := 2) rfl (by decide) rfl dX0_done_8 ?_
  refine k_aload_n hX (i := 0) rfl rfl dX0_done_9 ?_
  refine k_get hX io_13 fl_X0_32 rfl dX0_done_10 ?_
  refine k_iconst (v := (nI 1)) hX rfl dX0_done_13 ?_
  refine k_iload_n hX (i := 2) rfl rfl dX0_done_14 ?_
  refine k_ishl hX dX0_done_15 ?_
  refine k_iand hX dX0_done_16 ?_
  refine k_if_eq (tgt := 24) hX dX0_done_17 (by decide) (fun b2 => ?_) (fun b2 => ?_)
  · refine k_iconst (v := (nI 0)) hX rfl dX0_done_24 ?_
    exact w_X0_done_25 hX q1.1 ((nI 1) - q1.1) (nI 0) q1.2 ⟨rfl, rfl, rfl, trivial⟩
  refine k_iconst (v := (nI 1)) hX rfl dX0_done_20 ?_
  refine k_goto (tgt := 25) hX dX0_done_21 (by decide) ?_
  exact w_X0_done_25 hX q1.1 ((nI 1) - q1.1) (nI 1) q1.2 ⟨rfl, rfl, rfl, trivial⟩
set_option maxRecDepth 100000 in
theorem m_X0_done {l : Launch} {G : GL} {ad : Nat → Nat} {MM : Mem} (hAd : AdOK G ad) {M : Mem} {r : Rv} (h : f_X0_done M = some r) : Ct PostI l G ad (EC G ad MM) yX0_done cX0_done 6 (some .int) 2 56 [.ref (ad 13)] M r := ct_of' hAd (by decide +kernel) (List.forall_mem_cons.mpr ⟨rfl, (fun _ h => absurd h List.not_mem_nil)⟩) (Nat.le_of_ble_eq_true rfl) (L := [some (.ref (ad 13)), none, none, none, none, none]) rfl (fun _ hX => w_X0_done hX) h
set_option maxHeartbeats 4000000 in
set_option maxRecDepth 100000 in
theorem w_X0_two {l : Launch} {G : GL} {ad : Nat → Nat} {MM : Mem} {X : CT} (hX : Cx l { frames := 3, cells := 0, slots := 0, locals := 81 } cX0_two RX0 4 (some .int) G ad X) {p1 : Int32} {p2 : Int32} {p3 : Int32} {M : Mem} : KF l { frames := 3, cells := 0, slots := 0, locals := 81 } 4 G ad (EC G ad MM) (QP PostI G ad (EC G ad MM)) X (f_X0_two p1 p2 p3 M) [some (.ref (ad 13)), some (.int p1), some (.int p2), some (.int p3)] 0 [] M := by
  unfold f_X0_two
  refine k_aload_n hX (i := 0) rfl rfl dX0_two_0 ?_
  refine k_iload_n hX (i := 1) rfl rfl dX0_two_1 ?_
  refine k_callVV (vs := [.int p1]) hX (fun _ h9 => m_X0_begin hX.2.2.2.2.2.2.1  h9) io_13 rfl ml_X0_64 ⟨Nat.le_of_ble_eq_true rfl, Nat.le_of_ble_eq_true rfl⟩ rfl rfl (Nat.le_of_ble_eq_true rfl) dX0_two_2 (fun q1 => ?_)
  refine k_aload_n hX (i := 0) rfl rfl dX0_two_5 ?_
  refine k_iload_n hX (i := 2) rfl rfl dX0_two_6 ?_
  refine k_callVV (vs := [.int p2]) hX (fun _ h9 => m_X0_put hX.2.2.2.2.2.2.1  h9) io_13 rfl ml_X0_68 ⟨Nat.le_of_ble_eq_true rfl, Nat.le_of_ble_eq_true rfl⟩ rfl rfl (Nat.le_of_ble_eq_true rfl) dX0_two_7 (fun q2 => ?_)
  refine k_aload_n hX (i := 0) rfl rfl dX0_two_10 ?_
  refine k_iload_n hX (i := 3) rfl rfl dX0_two_11 ?_
  refine k_callVV (vs := [.int p3]) hX (fun _ h9 => m_X0_put hX.2.2.2.2.2.2.1  h9) io_13 rfl ml_X0_68 ⟨Nat.le_of_ble_eq_true rfl, Nat.le_of_ble_eq_true rfl⟩ rfl rfl (Nat.le_of_ble_eq_true rfl) dX0_two_12 (fun q3 => ?_)
  refine k_aload_n hX (i := 0) rfl rfl dX0_two_15 ?_
  refine k_callVI (vs := []) hX (fun _ h9 => m_X0_done hX.2.2.2.2.2.2.1  h9) io_13 rfl ml_X0_71 ⟨Nat.le_of_ble_eq_true rfl, Nat.le_of_ble_eq_true rfl⟩ rfl rfl (Nat.le_of_ble_eq_true rfl) dX0_two_16 (fun q4 => ?_)
  exact k_iret hX dX0_two_19
set_option maxRecDepth 100000 in
theorem m_X0_two {l : Launch} {G : GL} {ad : Nat → Nat} {MM : Mem} (hAd : AdOK G ad) {p1 : Int32} {p2 : Int32} {p3 : Int32} {M : Mem} {r : Rv} (h : f_X0_two p1 p2 p3 M = some r) : Ct PostI l G ad (EC G ad MM) yX0_two cX0_two 4 (some .int) 3 81 [.ref (ad 13), .int p1, .int p2, .int p3] M r := ct_of' hAd (by decide +kernel) (List.forall_mem_cons.mpr ⟨rfl, (List.forall_mem_cons.mpr ⟨rfl, (List.forall_mem_cons.mpr ⟨rfl, (List.forall_mem_cons.mpr ⟨rfl, (fun _ h => absurd h List.not_mem_nil)⟩)⟩)⟩)⟩) (Nat.le_of_ble_eq_true rfl) (L := [some (.ref (ad 13)), some (.int p1), some (.int p2), some (.int p3)]) rfl (fun _ hX => w_X0_two hX) h
set_option maxHeartbeats 4000000 in
set_option maxRecDepth 100000 in
theorem w_X0_make_41 {l : Launch} {G : GL} {ad : Nat → Nat} {MM : Mem} {X : CT} (hX : Cx l { frames := 2, cells := 0, slots := 0, locals := 56 } cX0_make RX0 4 (some .int) G ad X) : ∀ (s0 : Int32) (s1 : Int32) (s3 : Int32) (M : Mem) {L : List (Option Value)}, lsub [none, none, none, none] L → KF l { frames := 2, cells := 0, slots := 0, locals := 56 } 4 G ad (EC G ad MM) (QP PostI G ad (EC G ad MM)) X (f_X0_make_41 s0 s1 s3 M) L 41 [.int s0, .int s1, .ref (ad 16), .int s3, .ref (ad 1)] M := by
  intro s0 s1 s3 M L hL
  unfold f_X0_make_41
  refine KF.locals (lsub_le hL) ?_
  refine k_callVI (vs := [.int s3, .ref (ad 16), .int s1, .int s0]) hX (fun _ h9 => m_X1_make hX.2.2.2.2.2.2.1 (by decide) h9) io_1 rfl ml_X0_60 ⟨Nat.le_of_ble_eq_true rfl, Nat.le_of_ble_eq_true rfl⟩ rfl rfl (Nat.le_of_ble_eq_true rfl) dX0_make_41 (fun q1 => ?_)
  exact k_iret hX dX0_make_44
set_option maxHeartbeats 4000000 in
set_option maxRecDepth 100000 in
theorem w_X0_make_36 {l : Launch} {G : GL} {ad : Nat → Nat} {MM : Mem} {X : CT} (hX : Cx l { frames := 2, cells := 0, slots := 0, locals := 56 } cX0_make RX0 4 (some .int) G ad X) : ∀ (s0 : Int32) (s2 : Int32) (M : Mem) {L : List (Option Value)}, lsub [none, none, none, none] L → KF l { frames := 2, cells := 0, slots := 0, locals := 56 } 4 G ad (EC G ad MM) (QP PostI G ad (EC G ad MM)) X (f_X0_make_36 s0 s2 M) L 36 [.int s0, .ref (ad 16), .int s2, .ref (ad 1)] M := by
  intro s0 s2 M L hL
  unfold f_X0_make_36
  refine KF.locals (lsub_le hL) ?_
  refine k_iconst (v := (nI 1)) hX rfl dX0_make_36 ?_
  refine k_goto (tgt := 41) hX dX0_make_37 (by decide) ?_
  exact w_X0_make_41 hX (nI 1) s0 s2 M trivial
set_option maxHeartbeats 4000000 in
set_option maxRecDepth 100000 in
theorem w_X0_make {l : Launch} {G : GL} {ad : Nat → Nat} {MM : Mem} {X : CT} (hX : Cx l { frames := 2, cells := 0, slots := 0, locals := 56 } cX0_make RX0 4 (some .int) G ad X) {p1 : Int32} {p2 : Int32} {p3 : Int32} {M : Mem} : KF l { frames := 2, cells := 0, slots := 0, locals := 56 } 4 G ad (EC G ad MM) (QP PostI G ad (EC G ad MM)) X (f_X0_make p1 p2 p3 M) [some (.ref (ad 13)), some (.int p1), some (.int p2), some (.int p3)] 0 [] M := by
  unfold f_X0_make
  refine k_aload_n hX (i := 0) rfl rfl dX0_make_0 ?_
  refine k_get hX io_13 fl_X0_18 rfl dX0_make_1 ?_
  refine k_iconst (v := (nI 0)) hX rfl dX0_make_4 ?_
  refine k_iload_n hX (i := 2) rfl rfl dX0_make_5 ?_
  refine k_ast hX locC ia_16 dX0_make_6 (fun M1 => ?_)
  refine k_aload_n hX (i := 0) rfl rfl dX0_make_7 ?_
  refine k_get hX io_13 fl_X0_18 rfl dX0_make_8 ?_
  refine k_iconst (v := (nI 1)) hX rfl dX0_make_11 ?_
  refine k_iload_n hX (i := 3) rfl rfl dX0_make_12 ?_
  refine k_ast hX locC ia_16 dX0_make_13 (fun M2 => ?_)
  refine k_aload_n hX (i := 0) rfl rfl dX0_make_14 ?_
  refine k_get hX io_13 fl_X0_21 rfl dX0_make_15 ?_
  refine k_iload_n hX (i := 1) rfl rfl dX0_make_18 ?_
  refine k_aload_n hX (i := 0) rfl rfl dX0_make_19 ?_
  refine k_get hX io_13 fl_X0_18 rfl dX0_make_20 ?_
  refine k_iconst (v := (nI 0)) hX rfl dX0_make_23 ?_
  refine k_iload_n hX (i := 1) rfl rfl dX0_make_24 ?_
  refine k_bipush (v := (nI 16)) hX rfl dX0_make_25 ?_
  refine k_icmp_eq (tgt := 36) hX dX0_make_27 (by decide) (fun b3 => ?_) (fun b3 => ?_)
  · exact w_X0_make_36 hX (nI 0) p1 M2 trivial
  refine k_iload_n hX (i := 1) rfl rfl dX0_make_30 ?_
  refine k_bipush (v := (nI 17)) hX rfl dX0_make_31 ?_
  refine k_icmp_ne (tgt := 40) hX dX0_make_33 (by decide) (fun b4 => ?_) (fun b4 => ?_)
  · refine k_iconst (v := (nI 2)) hX rfl dX0_make_40 ?_
    exact w_X0_make_41 hX (nI 2) (nI 0) p1 M2 trivial
  exact w_X0_make_36 hX (nI 0) p1 M2 trivial
set_option maxRecDepth 100000 in
theorem m_X0_make {l : Launch} {G : GL} {ad : Nat → Nat} {MM : Mem} (hAd : AdOK G ad) {p1 : Int32} {p2 : Int32} {p3 : Int32} {M : Mem} {r : Rv} (h : f_X0_make p1 p2 p3 M = some r) : Ct PostI l G ad (EC G ad MM) yX0_make cX0_make 4 (some .int) 2 56 [.ref (ad 13), .int p1, .int p2, .int p3] M r := ct_of' hAd (by decide +kernel) (List.forall_mem_cons.mpr ⟨rfl, (List.forall_mem_cons.mpr ⟨rfl, (List.forall_mem_cons.mpr ⟨rfl, (List.forall_mem_cons.mpr ⟨rfl, (fun _ h => absurd h List.not_mem_nil)⟩)⟩)⟩)⟩) (Nat.le_of_ble_eq_true rfl) (L := [some (.ref (ad 13)), some (.int p1), some (.int p2), some (.int p3)]) rfl (fun _ hX => w_X0_make hX) h
set_option maxHeartbeats 4000000 in
set_option maxRecDepth 100000 in
theorem w_X0_joinKids_7 {l : Launch} {G : GL} {ad : Nat → Nat} {MM : Mem} {X : CT} (hX : Cx l { frames := 3, cells := 0, slots := 0, locals := 81 } cX0_joinKids RX0 4 (some .int) G ad X) : ∀ (n : Nat), ∀ (x1 : Int32) (x3 : Int32) (M : Mem) {L : List (Option Value)}, lsub [some (.ref (ad 13)), some (.int x1), none, some (.int x3)] L → KF l { frames := 3, cells := 0, slots := 0, locals := 81 } 4 G ad (EC G ad MM) (QP PostI G ad (EC G ad MM)) X (f_X0_joinKids_7 n x1 x3 M) L 7 [] M := by
  intro n
  induction n with
  | zero =>
    intro x1 x3 M L hL
    exact KF.none'
  | succ n ih =>
    intro x1 x3 M L hL
    rw [f_X0_joinKids_7]
    refine KF.locals (lsub_le hL) ?_
    refine k_iload_n hX (i := 3) rfl rfl dX0_joinKids_7 ?_
    refine k_aload_n hX (i := 0) rfl rfl dX0_joinKids_8 ?_
    refine k_get hX io_13 fl_X0_21 rfl dX0_joinKids_9 ?_
    refine k_get hX io_1 fl_X0_40 rfl dX0_joinKids_12 ?_
    refine k_iload_n hX (i := 1) rfl rfl dX0_joinKids_15 ?_
    refine k_ald hX ia_4 dX0_joinKids_16 (fun v1 => ?_)
    refine k_icmp_ge (tgt := 44) hX dX0_joinKids_17 (by decide) (fun b2 => ?_) (fun b2 => ?_)
    · refine k_aload_n hX (i := 0) rfl rfl dX0_joinKids_44 ?_
      refine k_callVI (vs := []) hX (fun _ h9 => m_X0_done hX.2.2.2.2.2.2.1  h9) io_13 rfl ml_X0_71 ⟨Nat.le_of_ble_eq_true rfl, Nat.le_of_ble_eq_true rfl⟩ rfl rfl (Nat.le_of_ble_eq_true rfl) dX0_joinKids_45 (fun q3 => ?_)
      exact k_iret hX dX0_joinKids_48
    refine k_aload_n hX (i := 0) rfl rfl dX0_joinKids_20 ?_
    refine k_aload_n hX (i := 0) rfl rfl dX0_joinKids_21 ?_
    refine k_get hX io_13 fl_X0_9 rfl dX0_joinKids_22 ?_
    refine k_aload_n hX (i := 0) rfl rfl dX0_joinKids_25 ?_
    refine k_get hX io_13 fl_X0_21 rfl dX0_joinKids_26 ?_
    refine k_iload_n hX (i := 1) rfl rfl dX0_joinKids_29 ?_
    refine k_iload_n hX (i := 3) rfl rfl dX0_joinKids_30 ?_
    refine k_callVI (vs := [.int x1, .int x3]) hX (fun _ h9 => m_X1_kid hX.2.2.2.2.2.2.1  h9) io_1 rfl ml_X0_43 ⟨Nat.le_of_ble_eq_true rfl, Nat.le_of_ble_eq_true rfl⟩ rfl rfl (Nat.le_of_ble_eq_true rfl) dX0_joinKids_31 (fun q4 => ?_)
    refine k_ald hX ia_14 dX0_joinKids_34 (fun v5 => ?_)
    refine k_callVV (vs := [.int v5]) hX (fun _ h9 => m_X0_put hX.2.2.2.2.2.2.1  h9) io_13 rfl ml_X0_68 ⟨Nat.le_of_ble_eq_true rfl, Nat.le_of_ble_eq_true rfl⟩ rfl rfl (Nat.le_of_ble_eq_true rfl) dX0_joinKids_35 (fun q6 => ?_)
    refine k_iinc (v := x3 + nI 1) (L' := [some (.ref (ad 13)), some (.int x1), none, some (.int (x3 + nI 1))]) hX (i := 3) rfl rfl (by decide) rfl dX0_joinKids_38 ?_
    refine k_goto (tgt := 7) hX dX0_joinKids_41 (by decide) ?_
    exact ih x1 (x3 + nI 1) q6.2 ⟨rfl, rfl, rfl, trivial⟩
set_option maxHeartbeats 4000000 in
set_option maxRecDepth 100000 in
theorem w_X0_joinKids {l : Launch} {G : GL} {ad : Nat → Nat} {MM : Mem} {X : CT} (hX : Cx l { frames := 3, cells := 0, slots := 0, locals := 81 } cX0_joinKids RX0 4 (some .int) G ad X) {p1 : Int32} {p2 : Int32} {M : Mem} : KF l { frames := 3, cells := 0, slots := 0, locals := 81 } 4 G ad (EC G ad MM) (QP PostI G ad (EC G ad MM)) X (f_X0_joinKids p1 p2 M) [some (.ref (ad 13)), some (.int p1), some (.int p2), none] 0 [] M := by
  unfold f_X0_joinKids
  refine k_aload_n hX (i := 0) rfl rfl dX0_joinKids_0 ?_
  refine k_iload_n hX (i := 2) rfl rfl dX0_joinKids_1 ?_
  refine k_callVV (vs := [.int p2]) hX (fun _ h9 => m_X0_begin hX.2.2.2.2.2.2.1  h9) io_13 rfl ml_X0_64 ⟨Nat.le_of_ble_eq_true rfl, Nat.le_of_ble_eq_true rfl⟩ rfl rfl (Nat.le_of_ble_eq_true rfl) dX0_joinKids_2 (fun q1 => ?_)
  refine k_iconst (v := (nI 0)) hX rfl dX0_joinKids_5 ?_
  refine k_istore_n (L' := [some (.ref (ad 13)), some (.int p1), some (.int p2), some (.int (nI 0))]) hX (i := 3) rfl (by decide) rfl dX0_joinKids_6 ?_
  exact w_X0_joinKids_7 hX fuelN p1 (nI 0) q1.2 ⟨rfl, rfl, rfl, trivial⟩
set_option maxRecDepth 100000 in
theorem m_X0_joinKids {l : Launch} {G : GL} {ad : Nat → Nat} {MM : Mem} (hAd : AdOK G ad) {p1 : Int32} {p2 : Int32} {M : Mem} {r : Rv} (h : f_X0_joinKids p1 p2 M = some r) : Ct PostI l G ad (EC G ad MM) yX0_joinKids cX0_joinKids 4 (some .int) 3 81 [.ref (ad 13), .int p1, .int p2] M r := ct_of' hAd (by decide +kernel) (List.forall_mem_cons.mpr ⟨rfl, (List.forall_mem_cons.mpr ⟨rfl, (List.forall_mem_cons.mpr ⟨rfl, (fun _ h => absurd h List.not_mem_nil)⟩)⟩)⟩) (Nat.le_of_ble_eq_true rfl) (L := [some (.ref (ad 13)), some (.int p1), some (.int p2), none]) rfl (fun _ hX => w_X0_joinKids hX) h
set_option maxHeartbeats 4000000 in
set_option maxRecDepth 100000 in
theorem w_X0_behind_87 {l : Launch} {G : GL} {ad : Nat → Nat} {MM : Mem} {X : CT} (hX : Cx l { frames := 4, cells := 0, slots := 0, locals := 104 } cX0_behind RX0 6 (some .int) G ad X) {k30 : Int32 → Int32 → Int32 → Mem → Option Rv} (hk30 : ∀ (x1 : Int32) (x2 : Int32) (x3 : Int32) (M : Mem) {L : List (Option Value)}, lsub [some (.ref (ad 13)), some (.int x1), some (.int x2), some (.int x3), none, none] L → KF l { frames := 4, cells := 0, slots := 0, locals := 104 } 6 G ad (EC G ad MM) (QP PostI G ad (EC G ad MM)) X (k30 x1 x2 x3 M) L 30 [] M) : ∀ (x1 : Int32) (x2 : Int32) (x3 : Int32) (s0 : Int32) (s1 : Int32) (M : Mem) {L : List (Option Value)}, lsub [some (.ref (ad 13)), some (.int x1), some (.int x2), some (.int x3), none, none] L → KF l { frames := 4, cells := 0, slots := 0, locals := 104 } 6 G ad (EC G ad MM) (QP PostI G ad (EC G ad MM)) X (f_X0_behind_87 k30 x1 x2 x3 s0 s1 M) L 87 [.int s0, .int s1, .ref (ad 14)] M := by
  intro x1 x2 x3 s0 s1 M L hL
  unfold f_X0_behind_87
  refine KF.locals (lsub_le hL) ?_
  refine k_ast hX locC ia_14 dX0_behind_87 (fun M1 => ?_)
  refine k_iinc (v := x3 + nI 1) (L' := [some (.ref (ad 13)), some (.int x1), some (.int x2), some (.int (x3 + nI 1)), none, none]) hX (i := 3) rfl rfl (by decide) rfl dX0_behind_88 ?_
  refine k_goto (tgt := 30) hX dX0_behind_91 (by decide) ?_
  exact hk30 x1 x2 (x3 + nI 1) M1 ⟨rfl, rfl, rfl, rfl, trivial⟩
set_option maxHeartbeats 4000000 in
set_option maxRecDepth 100000 in
theorem w_X0_behind_68 {l : Launch} {G : GL} {ad : Nat → Nat} {MM : Mem} {X : CT} (hX : Cx l { frames := 4, cells := 0, slots := 0, locals := 104 } cX0_behind RX0 6 (some .int) G ad X) {k30 : Int32 → Int32 → Int32 → Mem → Option Rv} (hk30 : ∀ (x1 : Int32) (x2 : Int32) (x3 : Int32) (M : Mem) {L : List (Option Value)}, lsub [some (.ref (ad 13)), some (.int x1), some (.int x2), some (.int x3), none, none] L → KF l { frames := 4, cells := 0, slots := 0, locals := 104 } 6 G ad (EC G ad MM) (QP PostI G ad (EC G ad MM)) X (k30 x1 x2 x3 M) L 30 [] M) : ∀ (x1 : Int32) (x2 : Int32) (x3 : Int32) (x4 : Int32) (s0 : Int32) (s1 : Int32) (M : Mem) {L : List (Option Value)}, lsub [some (.ref (ad 13)), some (.int x1), some (.int x2), some (.int x3), some (.int x4), none] L → KF l { frames := 4, cells := 0, slots := 0, locals := 104 } 6 G ad (EC G ad MM) (QP PostI G ad (EC G ad MM)) X (f_X0_behind_68 k30 x1 x2 x3 x4 s0 s1 M) L 68 [.int s0, .int s1, .ref (ad 14)] M := by
  intro x1 x2 x3 x4 s0 s1 M L hL
  unfold f_X0_behind_68
  refine KF.locals (lsub_le hL) ?_
  refine k_ast hX locC ia_14 dX0_behind_68 (fun M1 => ?_)
  refine k_aload_n hX (i := 0) rfl rfl dX0_behind_69 ?_
  refine k_get hX io_13 fl_X0_9 rfl dX0_behind_70 ?_
  refine k_bipush (v := (nI 10)) hX rfl dX0_behind_73 ?_
  refine k_iload_n hX (i := 3) rfl rfl dX0_behind_75 ?_
  refine k_iadd hX dX0_behind_76 ?_
  refine k_iload hX rfl dX0_behind_77 ?_
  refine k_if_eq (tgt := 86) hX dX0_behind_79 (by decide) (fun b2 => ?_) (fun b2 => ?_)
  · refine k_iconst (v := (nI 1)) hX rfl dX0_behind_86 ?_
    exact w_X0_behind_87 hX hk30 x1 x2 x3 (nI 1) ((nI 10) + x3) M1 ⟨rfl, rfl, rfl, rfl, trivial⟩
  refine k_iconst (v := (nI 0)) hX rfl dX0_behind_82 ?_
  refine k_goto (tgt := 87) hX dX0_behind_83 (by decide) ?_
  exact w_X0_behind_87 hX hk30 x1 x2 x3 (nI 0) ((nI 10) + x3) M1 ⟨rfl, rfl, rfl, rfl, trivial⟩
set_option maxHeartbeats 4000000 in
set_option maxRecDepth 100000 in
theorem w_X0_behind_49 {l : Launch} {G : GL} {ad : Nat → Nat} {MM : Mem} {X : CT} (hX : Cx l { frames := 4, cells := 0, slots := 0, locals := 104 } cX0_behind RX0 6 (some .int) G ad X) {k30 : Int32 → Int32 → Int32 → Mem → Option Rv} (hk30 : ∀ (x1 : Int32) (x2 : Int32) (x3 : Int32) (M : Mem) {L : List (Option Value)}, lsub [some (.ref (ad 13)), some (.int x1), some (.int x2), some (.int x3), none, none] L → KF l { frames := 4, cells := 0, slots := 0, locals := 104 } 6 G ad (EC G ad MM) (QP PostI G ad (EC G ad MM)) X (k30 x1 x2 x3 M) L 30 [] M) : ∀ (x1 : Int32) (x2 : Int32) (x3 : Int32) (s0 : Int32) (M : Mem) {L : List (Option Value)}, lsub [some (.ref (ad 13)), some (.int x1), some (.int x2), some (.int x3), none, none] L → KF l { frames := 4, cells := 0, slots := 0, locals := 104 } 6 G ad (EC G ad MM) (QP PostI G ad (EC G ad MM)) X (f_X0_behind_49 k30 x1 x2 x3 s0 M) L 49 [.int s0] M := by
  intro x1 x2 x3 s0 M L hL
  unfold f_X0_behind_49
  refine KF.locals (lsub_le hL) ?_
  refine k_istore (L' := [some (.ref (ad 13)), some (.int x1), some (.int x2), some (.int x3), some (.int s0), none]) hX (by decide) rfl dX0_behind_49 ?_
  refine k_aload_n hX (i := 0) rfl rfl dX0_behind_51 ?_
  refine k_get hX io_13 fl_X0_9 rfl dX0_behind_52 ?_
  refine k_iconst (v := (nI 4)) hX rfl dX0_behind_55 ?_
  refine k_iload_n hX (i := 3) rfl rfl dX0_behind_56 ?_
  refine k_iadd hX dX0_behind_57 ?_
  refine k_iload hX rfl dX0_behind_58 ?_
  refine k_if_eq (tgt := 67) hX dX0_behind_60 (by decide) (fun b1 => ?_) (fun b1 => ?_)
  · refine k_iconst (v := (nI 0)) hX rfl dX0_behind_67 ?_
    exact w_X0_behind_68 hX hk30 x1 x2 x3 s0 (nI 0) ((nI 4) + x3) M ⟨rfl, rfl, rfl, rfl, rfl, trivial⟩
  refine k_iconst (v := (nI 1)) hX rfl dX0_behind_63 ?_
  refine k_goto (tgt := 68) hX dX0_behind_64 (by decide) ?_
  exact w_X0_behind_68 hX hk30 x1 x2 x3 s0 (nI 1) ((nI 4) + x3) M ⟨rfl, rfl, rfl, rfl, rfl, trivial⟩
set_option maxHeartbeats 4000000 in
set_option maxRecDepth 100000 in
theorem w_X0_behind_300 {l : Launch} {G : GL} {ad : Nat → Nat} {MM : Mem} {X : CT} (hX : Cx l { frames := 4, cells := 0, slots := 0, locals := 104 } cX0_behind RX0 6 (some .int) G ad X) {k97 : Int32 → Int32 → Mem → Option Rv} (hk97 : ∀ (x1 : Int32) (x3 : Int32) (M : Mem) {L : List (Option Value)}, lsub [some (.ref (ad 13)), some (.int x1), none, some (.int x3), none, none] L → KF l { frames := 4, cells := 0, slots := 0, locals := 104 } 6 G ad (EC G ad MM) (QP PostI G ad (EC G ad MM)) X (k97 x1 x3 M) L 97 [] M) : ∀ (x1 : Int32) (x3 : Int32) (M : Mem) {L : List (Option Value)}, lsub [some (.ref (ad 13)), some (.int x1), none, some (.int x3), none, none] L → KF l { frames := 4, cells := 0, slots := 0, locals := 104 } 6 G ad (EC G ad MM) (QP PostI G ad (EC G ad MM)) X (f_X0_behind_300 k97 x1 x3 M) L 300 [] M := by
  intro x1 x3 M L hL
  unfold f_X0_behind_300
  refine KF.locals (lsub_le hL) ?_
  refine k_iinc (v := x3 + nI 1) (L' := [some (.ref (ad 13)), some (.int x1), none, some (.int (x3 + nI 1)), none, none]) hX (i := 3) rfl rfl (by decide) rfl dX0_behind_300 ?_
  refine k_goto (tgt := 97) hX dX0_behind_303 (by decide) ?_
  exact hk97 x1 (x3 + nI 1) M ⟨rfl, rfl, rfl, trivial⟩
set_option maxHeartbeats 4000000 in
set_option maxRecDepth 100000 in
theorem w_X0_behind_97 {l : Launch} {G : GL} {ad : Nat → Nat} {MM : Mem} {X : CT} (hX : Cx l { frames := 4, cells := 0, slots := 0, locals := 104 } cX0_behind RX0 6 (some .int) G ad X) : ∀ (n : Nat), ∀ (x1 : Int32) (x3 : Int32) (M : Mem) {L : List (Option Value)}, lsub [some (.ref (ad 13)), some (.int x1), none, some (.int x3), none, none] L → KF l { frames := 4, cells := 0, slots := 0, locals := 104 } 6 G ad (EC G ad MM) (QP PostI G ad (EC G ad MM)) X (f_X0_behind_97 n x1 x3 M) L 97 [] M := by
  intro n
  induction n with
  | zero =>
    intro x1 x3 M L hL
    exact KF.none'
  | succ n ih =>
    intro x1 x3 M L hL
    rw [f_X0_behind_97]
    refine KF.locals (lsub_le hL) ?_
    refine k_iload_n hX (i := 3) rfl rfl dX0_behind_97 ?_
    refine k_iload_n hX (i := 1) rfl rfl dX0_behind_98 ?_
    refine k_icmp_gt (tgt := 306) hX dX0_behind_99 (by decide) (fun b1 => ?_) (fun b1 => ?_)
    · refine k_aload_n hX (i := 0) rfl rfl dX0_behind_306 ?_
      refine k_get hX io_13 fl_X0_9 rfl dX0_behind_307 ?_
      refine k_iload_n hX (i := 1) rfl rfl dX0_behind_310 ?_
      refine k_ald hX ia_14 dX0_behind_311 (fun v2 => ?_)
      exact k_iret hX dX0_behind_312
    refine k_aload_n hX (i := 0) rfl rfl dX0_behind_102 ?_
    refine k_get hX io_13 fl_X0_21 rfl dX0_behind_103 ?_
    refine k_iload_n hX (i := 3) rfl rfl dX0_behind_106 ?_
    refine k_iconst (v := (nI 0)) hX rfl dX0_behind_107 ?_
    refine k_callVI (vs := [.int x3, .int (nI 0)]) hX (fun _ h9 => m_X1_kid hX.2.2.2.2.2.2.1  h9) io_1 rfl ml_X0_43 ⟨Nat.le_of_ble_eq_true rfl, Nat.le_of_ble_eq_true rfl⟩ rfl rfl (Nat.le_of_ble_eq_true rfl) dX0_behind_108 (fun q3 => ?_)
    refine k_istore (L' := [some (.ref (ad 13)), some (.int x1), none, some (.int x3), some (.int q3.1), none]) hX (by decide) rfl dX0_behind_111 ?_
    refine k_aload_n hX (i := 0) rfl rfl dX0_behind_113 ?_
    refine k_get hX io_13 fl_X0_21 rfl dX0_behind_114 ?_
    refine k_iload_n hX (i := 3) rfl rfl dX0_behind_117 ?_
    refine k_aload_n hX (i := 0) rfl rfl dX0_behind_118 ?_
    refine k_get hX io_13 fl_X0_21 rfl dX0_behind_119 ?_
    refine k_get hX io_1 fl_X0_40 rfl dX0_behind_122 ?_
    refine k_iload_n hX (i := 3) rfl rfl dX0_behind_125 ?_
    refine k_ald hX ia_4 dX0_behind_126 (fun v4 => ?_)
    refine k_iconst (v := (nI 1)) hX rfl dX0_behind_127 ?_
    refine k_isub hX dX0_behind_128 ?_
    refine k_callVI (vs := [.int x3, .int (v4 - (nI 1))]) hX (fun _ h9 => m_X1_kid hX.2.2.2.2.2.2.1  h9) io_1 rfl ml_X0_43 ⟨Nat.le_of_ble_eq_true rfl, Nat.le_of_ble_eq_true rfl⟩ rfl rfl (Nat.le_of_ble_eq_true rfl) dX0_behind_129 (fun q5 => ?_)
    refine k_istore (L' := [some (.ref (ad 13)), some (.int x1), none, some (.int x3), some (.int q3.1), some (.int q5.1)]) hX (by decide) rfl dX0_behind_132 ?_
    refine k_aload_n hX (i := 0) rfl rfl dX0_behind_134 ?_
    refine k_get hX io_13 fl_X0_21 rfl dX0_behind_135 ?_
    refine k_get hX io_1 fl_X0_35 rfl dX0_behind_138 ?_
    refine k_iload_n hX (i := 3) rfl rfl dX0_behind_141 ?_
    refine k_ald hX ia_2 dX0_behind_142 (fun v6 => ?_)
    refine KF.ite (fun b7 => ?_) (fun b7 => ?_)
    · refine k_tabIn (tgt := 172) hX b7 dX0_behind_143 (by decide) (by decide) rfl (by decide) ?_
      refine k_aload_n hX (i := 0) rfl rfl dX0_behind_172 ?_
      refine k_get hX io_13 fl_X0_9 rfl dX0_behind_173 ?_
      refine k_iload_n hX (i := 3) rfl rfl dX0_behind_176 ?_
      refine k_aload_n hX (i := 0) rfl rfl dX0_behind_177 ?_
      refine k_bipush (v := (nI 20)) hX rfl dX0_behind_178 ?_
      refine k_iconst (v := (nI 2)) hX rfl dX0_behind_180 ?_
      refine k_iload hX rfl dX0_behind_181 ?_
      refine k_callVI (vs := [.int (nI 20), .int (nI 2), .int q3.1]) hX (fun _ h9 => m_X0_two hX.2.2.2.2.2.2.1  h9) io_13 rfl ml_X0_74 ⟨Nat.le_of_ble_eq_true rfl, Nat.le_of_ble_eq_true rfl⟩ rfl rfl (Nat.le_of_ble_eq_true rfl) dX0_behind_183 (fun q8 => ?_)
      refine k_ast hX locC ia_14 dX0_behind_186 (fun M9 => ?_)
      refine k_goto (tgt := 300) hX dX0_behind_187 (by decide) ?_
      exact w_X0_behind_300 hX ih x1 x3 M9 ⟨rfl, rfl, rfl, trivial⟩
    refine KF.ite (fun b10 => ?_) (fun b10 => ?_)
    · refine k_tabIn (tgt := 190) hX b10 dX0_behind_143 (by decide) (by decide) rfl (by decide) ?_
      refine k_aload_n hX (i := 0) rfl rfl dX0_behind_190 ?_
      refine k_get hX io_13 fl_X0_9 rfl dX0_behind_191 ?_
      refine k_iload_n hX (i := 3) rfl rfl dX0_behind_194 ?_
      refine k_aload_n hX (i := 0) rfl rfl dX0_behind_195 ?_
      refine k_bipush (v := (nI 21)) hX rfl dX0_behind_196 ?_
      refine k_iconst (v := (nI 3)) hX rfl dX0_behind_198 ?_
      refine k_iload hX rfl dX0_behind_199 ?_
      refine k_callVI (vs := [.int (nI 21), .int (nI 3), .int q3.1]) hX (fun _ h9 => m_X0_two hX.2.2.2.2.2.2.1  h9) io_13 rfl ml_X0_74 ⟨Nat.le_of_ble_eq_true rfl, Nat.le_of_ble_eq_true rfl⟩ rfl rfl (Nat.le_of_ble_eq_true rfl) dX0_behind_201 (fun q11 => ?_)
      refine k_ast hX locC ia_14 dX0_behind_204 (fun M12 => ?_)
      refine k_goto (tgt := 300) hX dX0_behind_205 (by decide) ?_
      exact w_X0_behind_300 hX ih x1 x3 M12 ⟨rfl, rfl, rfl, trivial⟩
    refine KF.ite (fun b13 => ?_) (fun b13 => ?_)
    · refine k_tabIn (tgt := 208) hX b13 dX0_behind_143 (by decide) (by decide) rfl (by decide) ?_
      refine k_aload_n hX (i := 0) rfl rfl dX0_behind_208 ?_
      refine k_get hX io_13 fl_X0_9 rfl dX0_behind_209 ?_
      refine k_iload_n hX (i := 3) rfl rfl dX0_behind_212 ?_
      refine k_aload_n hX (i := 0) rfl rfl dX0_behind_213 ?_
      refine k_bipush (v := (nI 21)) hX rfl dX0_behind_214 ?_
      refine k_aload_n hX (i := 0) rfl rfl dX0_behind_216 ?_
      refine k_get hX io_13 fl_X0_9 rfl dX0_behind_217 ?_
      refine k_iload hX rfl dX0_behind_220 ?_
      refine k_ald hX ia_14 dX0_behind_222 (fun v14 => ?_)
      refine k_aload_n hX (i := 0) rfl rfl dX0_behind_223 ?_
      refine k_bipush (v := (nI 20)) hX rfl dX0_behind_224 ?_
      refine k_aload_n hX (i := 0) rfl rfl dX0_behind_226 ?_
      refine k_get hX io_13 fl_X0_9 rfl dX0_behind_227 ?_
      refine k_iload hX rfl dX0_behind_230 ?_
      refine k_ald hX ia_14 dX0_behind_232 (fun v15 => ?_)
      refine k_iload_n hX (i := 3) rfl rfl dX0_behind_233 ?_
      refine k_callVI (vs := [.int (nI 20), .int v15, .int x3]) hX (fun _ h9 => m_X0_two hX.2.2.2.2.2.2.1  h9) io_13 rfl ml_X0_74 ⟨Nat.le_of_ble_eq_true rfl, Nat.le_of_ble_eq_true rfl⟩ rfl rfl (Nat.le_of_ble_eq_true rfl) dX0_behind_234 (fun q16 => ?_)
      refine k_callVI (vs := [.int (nI 21), .int v14, .int q16.1]) hX (fun _ h9 => m_X0_two hX.2.2.2.2.2.2.1  h9) io_13 rfl ml_X0_74 ⟨Nat.le_of_ble_eq_true rfl, Nat.le_of_ble_eq_true rfl⟩ rfl rfl (Nat.le_of_ble_eq_true rfl) dX0_behind_237 (fun q17 => ?_)
      refine k_ast hX locC ia_14 dX0_behind_240 (fun M18 => ?_)
      refine k_goto (tgt := 300) hX dX0_behind_241 (by decide) ?_
      exact w_X0_behind_300 hX ih x1 x3 M18 ⟨rfl, rfl, rfl, trivial⟩
    refine KF.ite (fun b19 => ?_) (fun b19 => ?_)
    · refine k_tabIn (tgt := 244) hX b19 dX0_behind_143 (by decide) (by decide) rfl (by decide) ?_
      refine k_aload_n hX (i := 0) rfl rfl dX0_behind_244 ?_
      refine k_get hX io_13 fl_X0_9 rfl dX0_behind_245 ?_
      refine k_iload_n hX (i := 3) rfl rfl dX0_behind_248 ?_
      refine k_aload_n hX (i := 0) rfl rfl dX0_behind_249 ?_
      refine k_bipush (v := (nI 20)) hX rfl dX0_behind_250 ?_
      refine k_aload_n hX (i := 0) rfl rfl dX0_behind_252 ?_
      refine k_get hX io_13 fl_X0_9 rfl dX0_behind_253 ?_
      refine k_iload hX rfl dX0_behind_256 ?_
      refine k_ald hX ia_14 dX0_behind_258 (fun v20 => ?_)
      refine k_aload_n hX (i := 0) rfl rfl dX0_behind_259 ?_
      refine k_bipush (v := (nI 21)) hX rfl dX0_behind_260 ?_
      refine k_aload_n hX (i := 0) rfl rfl dX0_behind_262 ?_
      refine k_get hX io_13 fl_X0_9 rfl dX0_behind_263 ?_
      refine k_iload hX rfl dX0_behind_266 ?_
      refine k_ald hX ia_14 dX0_behind_268 (fun v21 => ?_)
      refine k_iload_n hX (i := 3) rfl rfl dX0_behind_269 ?_
      refine k_callVI (vs := [.int (nI 21), .int v21, .int x3]) hX (fun _ h9 => m_X0_two hX.2.2.2.2.2.2.1  h9) io_13 rfl ml_X0_74 ⟨Nat.le_of_ble_eq_true rfl, Nat.le_of_ble_eq_true rfl⟩ rfl rfl (Nat.le_of_ble_eq_true rfl) dX0_behind_270 (fun q22 => ?_)
      refine k_callVI (vs := [.int (nI 20), .int v20, .int q22.1]) hX (fun _ h9 => m_X0_two hX.2.2.2.2.2.2.1  h9) io_13 rfl ml_X0_74 ⟨Nat.le_of_ble_eq_true rfl, Nat.le_of_ble_eq_true rfl⟩ rfl rfl (Nat.le_of_ble_eq_true rfl) dX0_behind_273 (fun q23 => ?_)
      refine k_ast hX locC ia_14 dX0_behind_276 (fun M24 => ?_)
      refine k_goto (tgt := 300) hX dX0_behind_277 (by decide) ?_
      exact w_X0_behind_300 hX ih x1 x3 M24 ⟨rfl, rfl, rfl, trivial⟩
    replace b7 := ne_toInt (k := 16) b7 (by decide)
    replace b10 := ne_toInt (k := 17) b10 (by decide)
    replace b13 := ne_toInt (k := 18) b13 (by decide)
    replace b19 := ne_toInt (k := 19) b19 (by decide)
    refine k_tabOut (tgt := 280) hX dX0_behind_143 (by omega) (by decide) ?_
    refine k_aload_n hX (i := 0) rfl rfl dX0_behind_280 ?_
    refine k_get hX io_13 fl_X0_9 rfl dX0_behind_281 ?_
    refine k_iload_n hX (i := 3) rfl rfl dX0_behind_284 ?_
    refine k_aload_n hX (i := 0) rfl rfl dX0_behind_285 ?_
    refine k_iload_n hX (i := 3) rfl rfl dX0_behind_286 ?_
    refine k_aload_n hX (i := 0) rfl rfl dX0_behind_287 ?_
    refine k_get hX io_13 fl_X0_21 rfl dX0_behind_288 ?_
    refine k_get hX io_1 fl_X0_35 rfl dX0_behind_291 ?_
    refine k_iload_n hX (i := 3) rfl rfl dX0_behind_294 ?_
    refine k_ald hX ia_2 dX0_behind_295 (fun v25 => ?_)
    refine k_callVI (vs := [.int x3, .int v25]) hX (fun _ h9 => m_X0_joinKids hX.2.2.2.2.2.2.1  h9) io_13 rfl ml_X0_78 ⟨Nat.le_of_ble_eq_true rfl, Nat.le_of_ble_eq_true rfl⟩ rfl rfl (Nat.le_of_ble_eq_true rfl) dX0_behind_296 (fun q26 => ?_)
    refine k_ast hX locC ia_14 dX0_behind_299 (fun M27 => ?_)
    exact w_X0_behind_300 hX ih x1 x3 M27 ⟨rfl, rfl, rfl, trivial⟩
set_option maxHeartbeats 4000000 in
set_option maxRecDepth 100000 in
theorem w_X0_behind_30 {l : Launch} {G : GL} {ad : Nat → Nat} {MM : Mem} {X : CT} (hX : Cx l { frames := 4, cells := 0, slots := 0, locals := 104 } cX0_behind RX0 6 (some .int) G ad X) : ∀ (n : Nat), ∀ (x1 : Int32) (x2 : Int32) (x3 : Int32) (M : Mem) {L : List (Option Value)}, lsub [some (.ref (ad 13)), some (.int x1), some (.int x2), some (.int x3), none, none] L → KF l { frames := 4, cells := 0, slots := 0, locals := 104 } 6 G ad (EC G ad MM) (QP PostI G ad (EC G ad MM)) X (f_X0_behind_30 n x1 x2 x3 M) L 30 [] M := by
  intro n
  induction n with
  | zero =>
    intro x1 x2 x3 M L hL
    exact KF.none'
  | succ n ih =>
    intro x1 x2 x3 M L hL
    rw [f_X0_behind_30]
    refine KF.locals (lsub_le hL) ?_
    refine k_iload_n hX (i := 3) rfl rfl dX0_behind_30 ?_
    refine k_bipush (v := (nI 6)) hX rfl dX0_behind_31 ?_
    refine k_icmp_ge (tgt := 94) hX dX0_behind_33 (by decide) (fun b1 => ?_) (fun b1 => ?_)
    · refine k_bipush (v := (nI 16)) hX rfl dX0_behind_94 ?_
      refine k_istore_n (L' := [some (.ref (ad 13)), some (.int x1), some (.int x2), some (.int (nI 16)), none, none]) hX (i := 3) rfl (by decide) rfl dX0_behind_96 ?_
      exact w_X0_behind_97 hX fuelN x1 (nI 16) M ⟨rfl, rfl, rfl, trivial⟩
    refine k_iload_n hX (i := 2) rfl rfl dX0_behind_36 ?_
    refine k_iconst (v := (nI 1)) hX rfl dX0_behind_37 ?_
    refine k_iload_n hX (i := 3) rfl rfl dX0_behind_38 ?_
    refine k_ishl hX dX0_behind_39 ?_
    refine k_iand hX dX0_behind_40 ?_
    refine k_if_eq (tgt := 48) hX dX0_behind_41 (by decide) (fun b2 => ?_) (fun b2 => ?_)
    · refine k_iconst (v := (nI 0)) hX rfl dX0_behind_48 ?_
      exact w_X0_behind_49 hX ih x1 x2 x3 (nI 0) M ⟨rfl, rfl, rfl, rfl, trivial⟩
    refine k_iconst (v := (nI 1)) hX rfl dX0_behind_44 ?_
    refine k_goto (tgt := 49) hX dX0_behind_45 (by decide) ?_
    exact w_X0_behind_49 hX ih x1 x2 x3 (nI 1) M ⟨rfl, rfl, rfl, rfl, trivial⟩
set_option maxHeartbeats 4000000 in
set_option maxRecDepth 100000 in
theorem w_X0_behind {l : Launch} {G : GL} {ad : Nat → Nat} {MM : Mem} {X : CT} (hX : Cx l { frames := 4, cells := 0, slots := 0, locals := 104 } cX0_behind RX0 6 (some .int) G ad X) {p1 : Int32} {p2 : Int32} {M : Mem} : KF l { frames := 4, cells := 0, slots := 0, locals := 104 } 6 G ad (EC G ad MM) (QP PostI G ad (EC G ad MM)) X (f_X0_behind p1 p2 M) [some (.ref (ad 13)), some (.int p1), some (.int p2), none, none, none] 0 [] M := by
  unfold f_X0_behind
  refine k_aload_n hX (i := 0) rfl rfl dX0_behind_0 ?_
  refine k_get hX io_13 fl_X0_9 rfl dX0_behind_1 ?_
  refine k_iconst (v := (nI 0)) hX rfl dX0_behind_4 ?_
  refine k_iconst (v := (nI 0)) hX rfl dX0_behind_5 ?_
  refine k_ast hX locC ia_14 dX0_behind_6 (fun M1 => ?_)
  refine k_aload_n hX (i := 0) rfl rfl dX0_behind_7 ?_
  refine k_get hX io_13 fl_X0_9 rfl dX0_behind_8 ?_
  refine k_iconst (v := (nI 1)) hX rfl dX0_behind_11 ?_
  refine k_iconst (v := (nI 1)) hX rfl dX0_behind_12 ?_
  refine k_ast hX locC ia_14 dX0_behind_13 (fun M2 => ?_)
  refine k_aload_n hX (i := 0) rfl rfl dX0_behind_14 ?_
  refine k_get hX io_13 fl_X0_9 rfl dX0_behind_15 ?_
  refine k_iconst (v := (nI 2)) hX rfl dX0_behind_18 ?_
  refine k_iconst (v := (nI 1)) hX rfl dX0_behind_19 ?_
  refine k_ast hX locC ia_14 dX0_behind_20 (fun M3 => ?_)
  refine k_aload_n hX (i := 0) rfl rfl dX0_behind_21 ?_
  refine k_get hX io_13 fl_X0_9 rfl dX0_behind_22 ?_
  refine k_iconst (v := (nI 3)) hX rfl dX0_behind_25 ?_
  refine k_iconst (v := (nI 0)) hX rfl dX0_behind_26 ?_
  refine k_ast hX locC ia_14 dX0_behind_27 (fun M4 => ?_)
  refine k_iconst (v := (nI 0)) hX rfl dX0_behind_28 ?_
  refine k_istore_n (L' := [some (.ref (ad 13)), some (.int p1), some (.int p2), some (.int (nI 0)), none, none]) hX (i := 3) rfl (by decide) rfl dX0_behind_29 ?_
  exact w_X0_behind_30 hX fuelN p1 p2 (nI 0) M4 ⟨rfl, rfl, rfl, rfl, trivial⟩
set_option maxRecDepth 100000 in
theorem m_X0_behind {l : Launch} {G : GL} {ad : Nat → Nat} {MM : Mem} (hAd : AdOK G ad) {p1 : Int32} {p2 : Int32} {M : Mem} {r : Rv} (h : f_X0_behind p1 p2 M = some r) : Ct PostI l G ad (EC G ad MM) yX0_behind cX0_behind 6 (some .int) 4 104 [.ref (ad 13), .int p1, .int p2] M r := ct_of' hAd (by decide +kernel) (List.forall_mem_cons.mpr ⟨rfl, (List.forall_mem_cons.mpr ⟨rfl, (List.forall_mem_cons.mpr ⟨rfl, (fun _ h => absurd h List.not_mem_nil)⟩)⟩)⟩) (Nat.le_of_ble_eq_true rfl) (L := [some (.ref (ad 13)), some (.int p1), some (.int p2), none, none, none]) rfl (fun _ hX => w_X0_behind hX) h
