set_option maxHeartbeats 4000000 in
set_option maxRecDepth 100000 in
theorem w_X5_copyFrom_50 {l : Launch} {G : GL} {ad : Nat → Nat} {MM : Mem} {X : CT} (hX : Cx l { frames := 1, cells := 0, slots := 0, locals := 26 } cX5_copyFrom RX5 3 none G ad X) : ∀ (n : Nat), ∀ (x0 : Nat) (x1 : Nat) (x2 : Int32) (hx0 : isWb x0 = true) (hx1 : isWb x1 = true) (M : Mem) {L : List (Option Value)}, lsub [some (.ref (ad x0)), some (.ref (ad x1)), some (.int x2)] L → KF l { frames := 1, cells := 0, slots := 0, locals := 26 } 3 G ad (EC G ad MM) (QP PostV G ad (EC G ad MM)) X (f_X5_copyFrom_50 n x0 x1 x2 M) L 50 [] M := by
  intro n
  induction n with
  | zero =>
    intro x0 x1 x2 hx0 hx1 M L hL
    exact KF.none'
  | succ n ih =>
    intro x0 x1 x2 hx0 hx1 M L hL
    rw [f_X5_copyFrom_50]
    refine KF.locals (lsub_le hL) ?_
    refine k_iload_n hX (i := 2) rfl rfl dX5_copyFrom_50 ?_
    refine k_aload_n hX (i := 0) rfl rfl dX5_copyFrom_51 ?_
    refine k_get hX (io_W hx0) fl_X5_22 rfl dX5_copyFrom_52 ?_
    refine k_icmp_ge (tgt := 101) hX dX5_copyFrom_55 (by decide) (fun b1 => ?_) (fun b1 => ?_)
    · exact k_vret hX dX5_copyFrom_101
    refine k_aload_n hX (i := 0) rfl rfl dX5_copyFrom_58 ?_
    refine k_get hX (io_W hx0) fl_X5_9 rfl dX5_copyFrom_59 ?_
    refine k_iload_n hX (i := 2) rfl rfl dX5_copyFrom_62 ?_
    refine k_aload_n hX (i := 1) rfl rfl dX5_copyFrom_63 ?_
    refine k_get hX (io_W hx1) fl_X5_9 rfl dX5_copyFrom_64 ?_
    refine k_iload_n hX (i := 2) rfl rfl dX5_copyFrom_67 ?_
    refine k_ald hX (ia_W1 hx1) dX5_copyFrom_68 (fun v2 => ?_)
    refine k_ast hX locC (ia_W1 hx0) dX5_copyFrom_69 (fun M3 => ?_)
    refine k_aload_n hX (i := 1) rfl rfl dX5_copyFrom_70 ?_
    refine k_get hX (io_W hx1) fl_X5_15 rfl dX5_copyFrom_71 ?_
    refine k_iload_n hX (i := 2) rfl rfl dX5_copyFrom_74 ?_
    refine k_bipush (v := (nI 120)) hX rfl dX5_copyFrom_75 ?_
    refine k_imul hX dX5_copyFrom_77 ?_
    refine k_aload_n hX (i := 0) rfl rfl dX5_copyFrom_78 ?_
    refine k_get hX (io_W hx0) fl_X5_15 rfl dX5_copyFrom_79 ?_
    refine k_iload_n hX (i := 2) rfl rfl dX5_copyFrom_82 ?_
    refine k_bipush (v := (nI 120)) hX rfl dX5_copyFrom_83 ?_
    refine k_imul hX dX5_copyFrom_85 ?_
    refine k_aload_n hX (i := 0) rfl rfl dX5_copyFrom_86 ?_
    refine k_get hX (io_W hx0) fl_X5_9 rfl dX5_copyFrom_87 ?_
    refine k_iload_n hX (i := 2) rfl rfl dX5_copyFrom_90 ?_
    refine k_ald hX (ia_W1 hx0) dX5_copyFrom_91 (fun v4 => ?_)
    refine k_copy hX locC (ia_W2 hx1) (ia_W2 hx0) w_ac_X5 w_acn w_acs w_aci (Nat.le_of_ble_eq_true rfl) (Nat.le_of_ble_eq_true rfl) dX5_copyFrom_92 (fun M5 => ?_)
    refine k_iinc (v := x2 + nI 1) (L' := [some (.ref (ad x0)), some (.ref (ad x1)), some (.int (x2 + nI 1))]) hX (i := 2) rfl rfl (by decide) rfl dX5_copyFrom_95 ?_
    refine k_goto (tgt := 50) hX dX5_copyFrom_98 (by decide) ?_
    exact ih x0 x1 (x2 + nI 1) hx0 hx1 M5 ⟨rfl, rfl, rfl, trivial⟩
set_option maxHeartbeats 4000000 in
set_option maxRecDepth 100000 in
theorem w_X5_copyFrom {l : Launch} {G : GL} {ad : Nat → Nat} {MM : Mem} {X : CT} (hX : Cx l { frames := 1, cells := 0, slots := 0, locals := 26 } cX5_copyFrom RX5 3 none G ad X) {c0 : Nat} {p1 : Nat} (hc0 : isWb c0 = true) (hp1 : isWb p1 = true) {M : Mem} : KF l { frames := 1, cells := 0, slots := 0, locals := 26 } 3 G ad (EC G ad MM) (QP PostV G ad (EC G ad MM)) X (f_X5_copyFrom c0 p1 M) [some (.ref (ad c0)), some (.ref (ad p1)), none] 0 [] M := by
  unfold f_X5_copyFrom
  refine k_aload_n hX (i := 0) rfl rfl dX5_copyFrom_0 ?_
  refine k_aload_n hX (i := 1) rfl rfl dX5_copyFrom_1 ?_
  refine k_get hX (io_W hp1) fl_X5_18 rfl dX5_copyFrom_2 ?_
  refine k_putz hX locC (io_W hc0) fp_X5_18 (Nat.le_of_ble_eq_true rfl) rfl dX5_copyFrom_5 (fun M1 => ?_)
  refine k_aload_n hX (i := 0) rfl rfl dX5_copyFrom_8 ?_
  refine k_aload_n hX (i := 1) rfl rfl dX5_copyFrom_9 ?_
  refine k_get hX (io_W hp1) fl_X5_30 rfl dX5_copyFrom_10 ?_
  refine k_puti hX locC (io_W hc0) fp_X5_30 (Nat.le_of_ble_eq_true rfl) rfl dX5_copyFrom_13 (fun M2 => ?_)
  refine k_aload_n hX (i := 0) rfl rfl dX5_copyFrom_16 ?_
  refine k_aload_n hX (i := 1) rfl rfl dX5_copyFrom_17 ?_
  refine k_get hX (io_W hp1) fl_X5_22 rfl dX5_copyFrom_18 ?_
  refine k_puti hX locC (io_W hc0) fp_X5_22 (Nat.le_of_ble_eq_true rfl) rfl dX5_copyFrom_21 (fun M3 => ?_)
  refine k_aload_n hX (i := 0) rfl rfl dX5_copyFrom_24 ?_
  refine k_aload_n hX (i := 1) rfl rfl dX5_copyFrom_25 ?_
  refine k_get hX (io_W hp1) fl_X5_33 rfl dX5_copyFrom_26 ?_
  refine k_puti hX locC (io_W hc0) fp_X5_33 (Nat.le_of_ble_eq_true rfl) rfl dX5_copyFrom_29 (fun M4 => ?_)
  refine k_aload_n hX (i := 0) rfl rfl dX5_copyFrom_32 ?_
  refine k_aload_n hX (i := 1) rfl rfl dX5_copyFrom_33 ?_
  refine k_get hX (io_W hp1) fl_X5_36 rfl dX5_copyFrom_34 ?_
  refine k_puti hX locC (io_W hc0) fp_X5_36 (Nat.le_of_ble_eq_true rfl) rfl dX5_copyFrom_37 (fun M5 => ?_)
  refine k_aload_n hX (i := 0) rfl rfl dX5_copyFrom_40 ?_
  refine k_aload_n hX (i := 1) rfl rfl dX5_copyFrom_41 ?_
  refine k_get hX (io_W hp1) fl_X5_39 rfl dX5_copyFrom_42 ?_
  refine k_puti hX locC (io_W hc0) fp_X5_39 (Nat.le_of_ble_eq_true rfl) rfl dX5_copyFrom_45 (fun M6 => ?_)
  refine k_iconst (v := (nI 0)) hX rfl dX5_copyFrom_48 ?_
  refine k_istore_n (L' := [some (.ref (ad c0)), some (.ref (ad p1)), some (.int (nI 0))]) hX (i := 2) rfl (by decide) rfl dX5_copyFrom_49 ?_
  exact w_X5_copyFrom_50 hX fuelN c0 p1 (nI 0) hc0 hp1 M6 ⟨rfl, rfl, rfl, trivial⟩
set_option maxRecDepth 100000 in
theorem m_X5_copyFrom {l : Launch} {G : GL} {ad : Nat → Nat} {MM : Mem} (hAd : AdOK G ad) {c0 : Nat} {p1 : Nat} (hc0 : isWb c0 = true) (hp1 : isWb p1 = true) {M : Mem} {r : Rv} (h : f_X5_copyFrom c0 p1 M = some r) : Ct PostV l G ad (EC G ad MM) yX5_copyFrom cX5_copyFrom 3 none 1 26 [.ref (ad c0), .ref (ad p1)] M r := ct_of' hAd (by decide +kernel) (List.forall_mem_cons.mpr ⟨rfl, (List.forall_mem_cons.mpr ⟨rfl, (fun _ h => absurd h List.not_mem_nil)⟩)⟩) (Nat.le_of_ble_eq_true rfl) (L := [some (.ref (ad c0)), some (.ref (ad p1)), none]) rfl (fun _ hX => w_X5_copyFrom hX hc0 hp1) h
set_option maxHeartbeats 4000000 in
set_option maxRecDepth 100000 in
theorem w_X4_copyFrom_43 {l : Launch} {G : GL} {ad : Nat → Nat} {MM : Mem} {X : CT} (hX : Cx l { frames := 2, cells := 0, slots := 0, locals := 48 } cX4_copyFrom RX4 3 none G ad X) : ∀ (n : Nat), ∀ (x0 : Nat) (x1 : Nat) (x2 : Int32) (hx0 : isSb x0 = true) (hx1 : isSb x1 = true) (M : Mem) {L : List (Option Value)}, lsub [some (.ref (ad x0)), some (.ref (ad x1)), some (.int x2)] L → KF l { frames := 2, cells := 0, slots := 0, locals := 48 } 3 G ad (EC G ad MM) (QP PostV G ad (EC G ad MM)) X (f_X4_copyFrom_43 n x0 x1 x2 M) L 43 [] M := by
  intro n
  induction n with
  | zero =>
    intro x0 x1 x2 hx0 hx1 M L hL
    exact KF.none'
  | succ n ih =>
    intro x0 x1 x2 hx0 hx1 M L hL
    rw [f_X4_copyFrom_43]
    refine KF.locals (lsub_le hL) ?_
    refine k_iload_n hX (i := 2) rfl rfl dX4_copyFrom_43 ?_
    refine k_aload_n hX (i := 0) rfl rfl dX4_copyFrom_44 ?_
    refine k_get hX (io_S hx0) fl_X4_30 rfl dX4_copyFrom_45 ?_
    refine k_icmp_ge (tgt := 72) hX dX4_copyFrom_48 (by decide) (fun b1 => ?_) (fun b1 => ?_)
    · exact k_vret hX dX4_copyFrom_72
    refine k_aload_n hX (i := 0) rfl rfl dX4_copyFrom_51 ?_
    refine k_get hX (io_S hx0) fl_X4_17 rfl dX4_copyFrom_52 ?_
    refine k_iload_n hX (i := 2) rfl rfl dX4_copyFrom_55 ?_
    refine k_aldW hX (iq_S2 hx0) dX4_copyFrom_56 (fun c2 gc2 => ?_)
    have hc2 := mlW_is hx0 gc2
    refine k_aload_n hX (i := 1) rfl rfl dX4_copyFrom_57 ?_
    refine k_get hX (io_S hx1) fl_X4_17 rfl dX4_copyFrom_58 ?_
    refine k_iload_n hX (i := 2) rfl rfl dX4_copyFrom_61 ?_
    refine k_aldW hX (iq_S2 hx1) dX4_copyFrom_62 (fun c3 gc3 => ?_)
    have hc3 := mlW_is hx1 gc3
    refine k_callVV (vs := [.ref (ad c3)]) hX (fun _ h9 => m_X5_copyFrom hX.2.2.2.2.2.2.1 hc2 hc3 h9) (io_W hc2) rfl ml_X4_39 ⟨Nat.le_of_ble_eq_true rfl, Nat.le_of_ble_eq_true rfl⟩ rfl rfl (Nat.le_of_ble_eq_true rfl) dX4_copyFrom_63 (fun q4 => ?_)
    refine k_iinc (v := x2 + nI 1) (L' := [some (.ref (ad x0)), some (.ref (ad x1)), some (.int (x2 + nI 1))]) hX (i := 2) rfl rfl (by decide) rfl dX4_copyFrom_66 ?_
    refine k_goto (tgt := 43) hX dX4_copyFrom_69 (by decide) ?_
    exact ih x0 x1 (x2 + nI 1) hx0 hx1 q4.2 ⟨rfl, rfl, rfl, trivial⟩
set_option maxHeartbeats 4000000 in
set_option maxRecDepth 100000 in
theorem w_X4_copyFrom {l : Launch} {G : GL} {ad : Nat → Nat} {MM : Mem} {X : CT} (hX : Cx l { frames := 2, cells := 0, slots := 0, locals := 48 } cX4_copyFrom RX4 3 none G ad X) {c0 : Nat} {p1 : Nat} (hc0 : isSb c0 = true) (hp1 : isSb p1 = true) {M : Mem} : KF l { frames := 2, cells := 0, slots := 0, locals := 48 } 3 G ad (EC G ad MM) (QP PostV G ad (EC G ad MM)) X (f_X4_copyFrom c0 p1 M) [some (.ref (ad c0)), some (.ref (ad p1)), none] 0 [] M := by
  unfold f_X4_copyFrom
  refine k_aload_n hX (i := 0) rfl rfl dX4_copyFrom_0 ?_
  refine k_aload_n hX (i := 1) rfl rfl dX4_copyFrom_1 ?_
  refine k_get hX (io_S hp1) fl_X4_22 rfl dX4_copyFrom_2 ?_
  refine k_putz hX locC (io_S hc0) fp_X4_22 (Nat.le_of_ble_eq_true rfl) rfl dX4_copyFrom_5 (fun M1 => ?_)
  refine k_aload_n hX (i := 0) rfl rfl dX4_copyFrom_8 ?_
  refine k_aload_n hX (i := 1) rfl rfl dX4_copyFrom_9 ?_
  refine k_get hX (io_S hp1) fl_X4_26 rfl dX4_copyFrom_10 ?_
  refine k_puti hX locC (io_S hc0) fp_X4_26 (Nat.le_of_ble_eq_true rfl) rfl dX4_copyFrom_13 (fun M2 => ?_)
  refine k_aload_n hX (i := 0) rfl rfl dX4_copyFrom_16 ?_
  refine k_aload_n hX (i := 1) rfl rfl dX4_copyFrom_17 ?_
  refine k_get hX (io_S hp1) fl_X4_30 rfl dX4_copyFrom_18 ?_
  refine k_puti hX locC (io_S hc0) fp_X4_30 (Nat.le_of_ble_eq_true rfl) rfl dX4_copyFrom_21 (fun M3 => ?_)
  refine k_aload_n hX (i := 1) rfl rfl dX4_copyFrom_24 ?_
  refine k_get hX (io_S hp1) fl_X4_9 rfl dX4_copyFrom_25 ?_
  refine k_iconst (v := (nI 0)) hX rfl dX4_copyFrom_28 ?_
  refine k_aload_n hX (i := 0) rfl rfl dX4_copyFrom_29 ?_
  refine k_get hX (io_S hc0) fl_X4_9 rfl dX4_copyFrom_30 ?_
  refine k_iconst (v := (nI 0)) hX rfl dX4_copyFrom_33 ?_
  refine k_aload_n hX (i := 0) rfl rfl dX4_copyFrom_34 ?_
  refine k_get hX (io_S hc0) fl_X4_26 rfl dX4_copyFrom_35 ?_
  refine k_copy hX locC (ia_S1 hp1) (ia_S1 hc0) w_ac_X4 w_acn w_acs w_aci (Nat.le_of_ble_eq_true rfl) (Nat.le_of_ble_eq_true rfl) dX4_copyFrom_38 (fun M4 => ?_)
  refine k_iconst (v := (nI 0)) hX rfl dX4_copyFrom_41 ?_
  refine k_istore_n (L' := [some (.ref (ad c0)), some (.ref (ad p1)), some (.int (nI 0))]) hX (i := 2) rfl (by decide) rfl dX4_copyFrom_42 ?_
  exact w_X4_copyFrom_43 hX fuelN c0 p1 (nI 0) hc0 hp1 M4 ⟨rfl, rfl, rfl, trivial⟩
set_option maxRecDepth 100000 in
theorem m_X4_copyFrom {l : Launch} {G : GL} {ad : Nat → Nat} {MM : Mem} (hAd : AdOK G ad) {c0 : Nat} {p1 : Nat} (hc0 : isSb c0 = true) (hp1 : isSb p1 = true) {M : Mem} {r : Rv} (h : f_X4_copyFrom c0 p1 M = some r) : Ct PostV l G ad (EC G ad MM) yX4_copyFrom cX4_copyFrom 3 none 2 48 [.ref (ad c0), .ref (ad p1)] M r := ct_of' hAd (by decide +kernel) (List.forall_mem_cons.mpr ⟨rfl, (List.forall_mem_cons.mpr ⟨rfl, (fun _ h => absurd h List.not_mem_nil)⟩)⟩) (Nat.le_of_ble_eq_true rfl) (L := [some (.ref (ad c0)), some (.ref (ad p1)), none]) rfl (fun _ hX => w_X4_copyFrom hX hc0 hp1) h
set_option maxHeartbeats 4000000 in
set_option maxRecDepth 100000 in
theorem w_X4_find_24 {l : Launch} {G : GL} {ad : Nat → Nat} {MM : Mem} {X : CT} (hX : Cx l { frames := 0, cells := 0, slots := 0, locals := 0 } cX4_find RX4 2 (some (.object RX5)) G ad X) : ∀ (M : Mem) {L : List (Option Value)}, lsub [none, none] L → KF l { frames := 0, cells := 0, slots := 0, locals := 0 } 2 G ad (EC G ad MM) (QP PostQ G ad (EC G ad MM)) X (f_X4_find_24 M) L 24 [] M := by
  intro M L hL
  unfold f_X4_find_24
  refine KF.locals (lsub_le hL) ?_
  refine k_null hX dX4_find_24 ?_
  exact k_aretN hX dX4_find_25
set_option maxHeartbeats 4000000 in
set_option maxRecDepth 100000 in
theorem w_X4_find {l : Launch} {G : GL} {ad : Nat → Nat} {MM : Mem} {X : CT} (hX : Cx l { frames := 0, cells := 0, slots := 0, locals := 0 } cX4_find RX4 2 (some (.object RX5)) G ad X) {c0 : Nat} {p1 : Int32} (hc0 : isSb c0 = true) {M : Mem} : KF l { frames := 0, cells := 0, slots := 0, locals := 0 } 2 G ad (EC G ad MM) (QP PostQ G ad (EC G ad MM)) X (f_X4_find c0 p1 M) [some (.ref (ad c0)), some (.int p1)] 0 [] M := by
  unfold f_X4_find
  refine k_iload_n hX (i := 1) rfl rfl dX4_find_0 ?_
  refine k_if_lt (tgt := 24) hX dX4_find_1 (by decide) (fun b1 => ?_) (fun b1 => ?_)
  · exact w_X4_find_24 hX M trivial
  refine k_iload_n hX (i := 1) rfl rfl dX4_find_4 ?_
  refine k_aload_n hX (i := 0) rfl rfl dX4_find_5 ?_
  refine k_get hX (io_S hc0) fl_X4_30 rfl dX4_find_6 ?_
  refine k_icmp_ge (tgt := 24) hX dX4_find_9 (by decide) (fun b2 => ?_) (fun b2 => ?_)
  · exact w_X4_find_24 hX M trivial
  refine k_aload_n hX (i := 0) rfl rfl dX4_find_12 ?_
  refine k_get hX (io_S hc0) fl_X4_17 rfl dX4_find_13 ?_
  refine k_iload_n hX (i := 1) rfl rfl dX4_find_16 ?_
  refine k_aldW hX (iq_S2 hc0) dX4_find_17 (fun c3 gc3 => ?_)
  have hc3 := mlW_is hc0 gc3
  refine k_get hX (io_W hc3) fl_X4_43 rfl dX4_find_18 ?_
  refine k_if_ne (tgt := 26) hX dX4_find_21 (by decide) (fun b4 => ?_) (fun b4 => ?_)
  · refine k_aload_n hX (i := 0) rfl rfl dX4_find_26 ?_
    refine k_get hX (io_S hc0) fl_X4_17 rfl dX4_find_27 ?_
    refine k_iload_n hX (i := 1) rfl rfl dX4_find_30 ?_
    refine k_aldW hX (iq_S2 hc0) dX4_find_31 (fun c5 gc5 => ?_)
    have hc5 := mlW_is hc0 gc5
    exact k_aret hX hc5 dX4_find_32
  exact w_X4_find_24 hX M trivial
set_option maxRecDepth 100000 in
theorem m_X4_find {l : Launch} {G : GL} {ad : Nat → Nat} {MM : Mem} (hAd : AdOK G ad) {c0 : Nat} {p1 : Int32} (hc0 : isSb c0 = true) {M : Mem} {r : Rv} (h : f_X4_find c0 p1 M = some r) : Ct PostQ l G ad (EC G ad MM) yX4_find cX4_find 2 (some (.object RX5)) 0 0 [.ref (ad c0), .int p1] M r := ct_of' hAd (by decide +kernel) (List.forall_mem_cons.mpr ⟨rfl, (List.forall_mem_cons.mpr ⟨rfl, (fun _ h => absurd h List.not_mem_nil)⟩)⟩) (Nat.le_of_ble_eq_true rfl) (L := [some (.ref (ad c0)), some (.int p1)]) rfl (fun _ hX => w_X4_find hX hc0) h
set_option maxHeartbeats 4000000 in
set_option maxRecDepth 100000 in
theorem w_X4_isOpen_30 {l : Launch} {G : GL} {ad : Nat → Nat} {MM : Mem} {X : CT} (hX : Cx l { frames := 0, cells := 0, slots := 0, locals := 0 } cX4_isOpen RX4 2 (some .boolean) G ad X) : ∀ (s0 : Int32) (M : Mem) {L : List (Option Value)}, lsub [none, none] L → KF l { frames := 0, cells := 0, slots := 0, locals := 0 } 2 G ad (EC G ad MM) (QP PostI G ad (EC G ad MM)) X (f_X4_isOpen_30 s0 M) L 30 [.int s0] M := by
  intro s0 M L hL
  unfold f_X4_isOpen_30
  refine KF.locals (lsub_le hL) ?_
  exact k_zret hX dX4_isOpen_30
set_option maxHeartbeats 4000000 in
set_option maxRecDepth 100000 in
theorem w_X4_isOpen_29 {l : Launch} {G : GL} {ad : Nat → Nat} {MM : Mem} {X : CT} (hX : Cx l { frames := 0, cells := 0, slots := 0, locals := 0 } cX4_isOpen RX4 2 (some .boolean) G ad X) : ∀ (M : Mem) {L : List (Option Value)}, lsub [none, none] L → KF l { frames := 0, cells := 0, slots := 0, locals := 0 } 2 G ad (EC G ad MM) (QP PostI G ad (EC G ad MM)) X (f_X4_isOpen_29 M) L 29 [] M := by
  intro M L hL
  unfold f_X4_isOpen_29
  refine KF.locals (lsub_le hL) ?_
  refine k_iconst (v := (nI 0)) hX rfl dX4_isOpen_29 ?_
  exact w_X4_isOpen_30 hX (nI 0) M trivial
set_option maxHeartbeats 4000000 in
set_option maxRecDepth 100000 in
theorem w_X4_isOpen {l : Launch} {G : GL} {ad : Nat → Nat} {MM : Mem} {X : CT} (hX : Cx l { frames := 0, cells := 0, slots := 0, locals := 0 } cX4_isOpen RX4 2 (some .boolean) G ad X) {c0 : Nat} {p1 : Int32} (hc0 : isSb c0 = true) {M : Mem} : KF l { frames := 0, cells := 0, slots := 0, locals := 0 } 2 G ad (EC G ad MM) (QP PostI G ad (EC G ad MM)) X (f_X4_isOpen c0 p1 M) [some (.ref (ad c0)), some (.int p1)] 0 [] M := by
  unfold f_X4_isOpen
  refine k_aload_n hX (i := 0) rfl rfl dX4_isOpen_0 ?_
  refine k_get hX (io_S hc0) fl_X4_17 rfl dX4_isOpen_1 ?_
  refine k_iload_n hX (i := 1) rfl rfl dX4_isOpen_4 ?_
  refine k_aldW hX (iq_S2 hc0) dX4_isOpen_5 (fun c1 gc1 => ?_)
  have hc1 := mlW_is hc0 gc1
  refine k_get hX (io_W hc1) fl_X4_43 rfl dX4_isOpen_6 ?_
  refine k_if_eq (tgt := 29) hX dX4_isOpen_9 (by decide) (fun b2 => ?_) (fun b2 => ?_)
  · exact w_X4_isOpen_29 hX M trivial
  refine k_aload_n hX (i := 0) rfl rfl dX4_isOpen_12 ?_
  refine k_get hX (io_S hc0) fl_X4_17 rfl dX4_isOpen_13 ?_
  refine k_iload_n hX (i := 1) rfl rfl dX4_isOpen_16 ?_
  refine k_aldW hX (iq_S2 hc0) dX4_isOpen_17 (fun c3 gc3 => ?_)
  have hc3 := mlW_is hc0 gc3
  refine k_get hX (io_W hc3) fl_X4_46 rfl dX4_isOpen_18 ?_
  refine k_iconst (v := (nI 2)) hX rfl dX4_isOpen_21 ?_
  refine k_icmp_ne (tgt := 29) hX dX4_isOpen_22 (by decide) (fun b4 => ?_) (fun b4 => ?_)
  · exact w_X4_isOpen_29 hX M trivial
  refine k_iconst (v := (nI 1)) hX rfl dX4_isOpen_25 ?_
  refine k_goto (tgt := 30) hX dX4_isOpen_26 (by decide) ?_
  exact w_X4_isOpen_30 hX (nI 1) M trivial
set_option maxRecDepth 100000 in
theorem m_X4_isOpen {l : Launch} {G : GL} {ad : Nat → Nat} {MM : Mem} (hAd : AdOK G ad) {c0 : Nat} {p1 : Int32} (hc0 : isSb c0 = true) {M : Mem} {r : Rv} (h : f_X4_isOpen c0 p1 M = some r) : Ct PostI l G ad (EC G ad MM) yX4_isOpen cX4_isOpen 2 (some .boolean) 0 0 [.ref (ad c0), .int p1] M r := ct_of' hAd (by decide +kernel) (List.forall_mem_cons.mpr ⟨rfl, (List.forall_mem_cons.mpr ⟨rfl, (fun _ h => absurd h List.not_mem_nil)⟩)⟩) (Nat.le_of_ble_eq_true rfl) (L := [some (.ref (ad c0)), some (.int p1)]) rfl (fun _ hX => w_X4_isOpen hX hc0) h
set_option maxHeartbeats 4000000 in
set_option maxRecDepth 100000 in
theorem w_X5_sizeOfParts_4 {l : Launch} {G : GL} {ad : Nat → Nat} {MM : Mem} {X : CT} (hX : Cx l { frames := 0, cells := 0, slots := 0, locals := 0 } cX5_sizeOfParts RX5 3 (some .int) G ad X) : ∀ (n : Nat), ∀ (x0 : Nat) (x1 : Int32) (x2 : Int32) (hx0 : isWb x0 = true) (M : Mem) {L : List (Option Value)}, lsub [some (.ref (ad x0)), some (.int x1), some (.int x2)] L → KF l { frames := 0, cells := 0, slots := 0, locals := 0 } 3 G ad (EC G ad MM) (QP PostI G ad (EC G ad MM)) X (f_X5_sizeOfParts_4 n x0 x1 x2 M) L 4 [] M := by
  intro n
  induction n with
  | zero =>
    intro x0 x1 x2 hx0 M L hL
    exact KF.none'
  | succ n ih =>
    intro x0 x1 x2 hx0 M L hL
    rw [f_X5_sizeOfParts_4]
    refine KF.locals (lsub_le hL) ?_
    refine k_iload_n hX (i := 2) rfl rfl dX5_sizeOfParts_4 ?_
    refine k_aload_n hX (i := 0) rfl rfl dX5_sizeOfParts_5 ?_
    refine k_get hX (io_W hx0) fl_X5_22 rfl dX5_sizeOfParts_6 ?_
    refine k_icmp_ge (tgt := 27) hX dX5_sizeOfParts_9 (by decide) (fun b1 => ?_) (fun b1 => ?_)
    · refine k_iload_n hX (i := 1) rfl rfl dX5_sizeOfParts_27 ?_
      exact k_iret hX dX5_sizeOfParts_28
    refine k_iload_n hX (i := 1) rfl rfl dX5_sizeOfParts_12 ?_
    refine k_aload_n hX (i := 0) rfl rfl dX5_sizeOfParts_13 ?_
    refine k_get hX (io_W hx0) fl_X5_9 rfl dX5_sizeOfParts_14 ?_
    refine k_iload_n hX (i := 2) rfl rfl dX5_sizeOfParts_17 ?_
    refine k_ald hX (ia_W1 hx0) dX5_sizeOfParts_18 (fun v2 => ?_)
    refine k_iadd hX dX5_sizeOfParts_19 ?_
    refine k_istore_n (L' := [some (.ref (ad x0)), some (.int (x1 + v2)), some (.int x2)]) hX (i := 1) rfl (by decide) rfl dX5_sizeOfParts_20 ?_
    refine k_iinc (v := x2 + nI 1) (L' := [some (.ref (ad x0)), some (.int (x1 + v2)), some (.int (x2 + nI 1))]) hX (i := 2) rfl rfl (by decide) rfl dX5_sizeOfParts_21 ?_
    refine k_goto (tgt := 4) hX dX5_sizeOfParts_24 (by decide) ?_
    exact ih x0 (x1 + v2) (x2 + nI 1) hx0 M ⟨rfl, rfl, rfl, trivial⟩
set_option maxHeartbeats 4000000 in
set_option maxRecDepth 100000 in
theorem w_X5_sizeOfParts {l : Launch} {G : GL} {ad : Nat → Nat} {MM : Mem} {X : CT} (hX : Cx l { frames := 0, cells := 0, slots := 0, locals := 0 } cX5_sizeOfParts RX5 3 (some .int) G ad X) {c0 : Nat} (hc0 : isWb c0 = true) {M : Mem} : KF l { frames := 0, cells := 0, slots := 0, locals := 0 } 3 G ad (EC G ad MM) (QP PostI G ad (EC G ad MM)) X (f_X5_sizeOfParts c0 M) [some (.ref (ad c0)), none, none] 0 [] M := by
  unfold f_X5_sizeOfParts
  refine k_iconst (v := (nI 0)) hX rfl dX5_sizeOfParts_0 ?_
  refine k_istore_n (L' := [some (.ref (ad c0)), some (.int (nI 0)), none]) hX (i := 1) rfl (by decide) rfl dX5_sizeOfParts_1 ?_
  refine k_iconst (v := (nI 0)) hX rfl dX5_sizeOfParts_2 ?_
  refine k_istore_n (L' := [some (.ref (ad c0)), some (.int (nI 0)), some (.int (nI 0))]) hX (i := 2) rfl (by decide) rfl dX5_sizeOfParts_3 ?_
  exact w_X5_sizeOfParts_4 hX fuelN c0 (nI 0) (nI 0) hc0 M ⟨rfl, rfl, rfl, trivial⟩
set_option maxRecDepth 100000 in
theorem m_X5_sizeOfParts {l : Launch} {G : GL} {ad : Nat → Nat} {MM : Mem} (hAd : AdOK G ad) {c0 : Nat} (hc0 : isWb c0 = true) {M : Mem} {r : Rv} (h : f_X5_sizeOfParts c0 M = some r) : Ct PostI l G ad (EC G ad MM) yX5_sizeOfParts cX5_sizeOfParts 3 (some .int) 0 0 [.ref (ad c0)] M r := ct_of' hAd (by decide +kernel) (List.forall_mem_cons.mpr ⟨rfl, (fun _ h => absurd h List.not_mem_nil)⟩) (Nat.le_of_ble_eq_true rfl) (L := [some (.ref (ad c0)), none, none]) rfl (fun _ hX => w_X5_sizeOfParts hX hc0) h
set_option maxHeartbeats 4000000 in
set_option maxRecDepth 100000 in
theorem w_X4_rankOfOpen_66 {l : Launch} {G : GL} {ad : Nat → Nat} {MM : Mem} {X : CT} (hX : Cx l { frames := 1, cells := 0, slots := 0, locals := 22 } cX4_rankOfOpen RX4 6 (some .int) G ad X) {k15 : Nat → Int32 → Int32 → Int32 → Int32 → Mem → Option Rv} (hk15 : ∀ (x0 : Nat) (x1 : Int32) (x2 : Int32) (x3 : Int32) (x4 : Int32) (hx0 : isSb x0 = true) (M : Mem) {L : List (Option Value)}, lsub [some (.ref (ad x0)), some (.int x1), some (.int x2), some (.int x3), some (.int x4), none] L → KF l { frames := 1, cells := 0, slots := 0, locals := 22 } 6 G ad (EC G ad MM) (QP PostI G ad (EC G ad MM)) X (k15 x0 x1 x2 x3 x4 M) L 15 [] M) : ∀ (x0 : Nat) (x1 : Int32) (x2 : Int32) (x3 : Int32) (x4 : Int32) (hx0 : isSb x0 = true) (M : Mem) {L : List (Option Value)}, lsub [some (.ref (ad x0)), some (.int x1), some (.int x2), some (.int x3), some (.int x4), none] L → KF l { frames := 1, cells := 0, slots := 0, locals := 22 } 6 G ad (EC G ad MM) (QP PostI G ad (EC G ad MM)) X (f_X4_rankOfOpen_66 k15 x0 x1 x2 x3 x4 M) L 66 [] M := by
  intro x0 x1 x2 x3 x4 hx0 M L hL
  unfold f_X4_rankOfOpen_66
  refine KF.locals (lsub_le hL) ?_
  refine k_iinc (v := x4 + nI 1) (L' := [some (.ref (ad x0)), some (.int x1), some (.int x2), some (.int x3), some (.int (x4 + nI 1)), none]) hX (i := 4) rfl rfl (by decide) rfl dX4_rankOfOpen_66 ?_
  refine k_goto (tgt := 15) hX dX4_rankOfOpen_69 (by decide) ?_
  exact hk15 x0 x1 x2 x3 (x4 + nI 1) hx0 M ⟨rfl, rfl, rfl, rfl, rfl, trivial⟩
set_option maxHeartbeats 4000000 in
set_option maxRecDepth 100000 in
theorem w_X4_rankOfOpen_63 {l : Launch} {G : GL} {ad : Nat → Nat} {MM : Mem} {X : CT} (hX : Cx l { frames := 1, cells := 0, slots := 0, locals := 22 } cX4_rankOfOpen RX4 6 (some .int) G ad X) {k15 : Nat → Int32 → Int32 → Int32 → Int32 → Mem → Option Rv} (hk15 : ∀ (x0 : Nat) (x1 : Int32) (x2 : Int32) (x3 : Int32) (x4 : Int32) (hx0 : isSb x0 = true) (M : Mem) {L : List (Option Value)}, lsub [some (.ref (ad x0)), some (.int x1), some (.int x2), some (.int x3), some (.int x4), none] L → KF l { frames := 1, cells := 0, slots := 0, locals := 22 } 6 G ad (EC G ad MM) (QP PostI G ad (EC G ad MM)) X (k15 x0 x1 x2 x3 x4 M) L 15 [] M) : ∀ (x0 : Nat) (x1 : Int32) (x2 : Int32) (x3 : Int32) (x4 : Int32) (hx0 : isSb x0 = true) (M : Mem) {L : List (Option Value)}, lsub [some (.ref (ad x0)), some (.int x1), some (.int x2), some (.int x3), some (.int x4), none] L → KF l { frames := 1, cells := 0, slots := 0, locals := 22 } 6 G ad (EC G ad MM) (QP PostI G ad (EC G ad MM)) X (f_X4_rankOfOpen_63 k15 x0 x1 x2 x3 x4 M) L 63 [] M := by
  intro x0 x1 x2 x3 x4 hx0 M L hL
  unfold f_X4_rankOfOpen_63
  refine KF.locals (lsub_le hL) ?_
  refine k_iinc (v := x3 + nI 1) (L' := [some (.ref (ad x0)), some (.int x1), some (.int x2), some (.int (x3 + nI 1)), some (.int x4), none]) hX (i := 3) rfl rfl (by decide) rfl dX4_rankOfOpen_63 ?_
  exact w_X4_rankOfOpen_66 hX hk15 x0 x1 x2 (x3 + nI 1) x4 hx0 M ⟨rfl, rfl, rfl, rfl, rfl, trivial⟩
set_option maxHeartbeats 4000000 in
set_option maxRecDepth 100000 in
theorem w_X4_rankOfOpen_15 {l : Launch} {G : GL} {ad : Nat → Nat} {MM : Mem} {X : CT} (hX : Cx l { frames := 1, cells := 0, slots := 0, locals := 22 } cX4_rankOfOpen RX4 6 (some .int) G ad X) : ∀ (n : Nat), ∀ (x0 : Nat) (x1 : Int32) (x2 : Int32) (x3 : Int32) (x4 : Int32) (hx0 : isSb x0 = true) (M : Mem) {L : List (Option Value)}, lsub [some (.ref (ad x0)), some (.int x1), some (.int x2), some (.int x3), some (.int x4), none] L → KF l { frames := 1, cells := 0, slots := 0, locals := 22 } 6 G ad (EC G ad MM) (QP PostI G ad (EC G ad MM)) X (f_X4_rankOfOpen_15 n x0 x1 x2 x3 x4 M) L 15 [] M := by
  intro n
  induction n with
  | zero =>
    intro x0 x1 x2 x3 x4 hx0 M L hL
    exact KF.none'
  | succ n ih =>
    intro x0 x1 x2 x3 x4 hx0 M L hL
    rw [f_X4_rankOfOpen_15]
    refine KF.locals (lsub_le hL) ?_
    refine k_iload hX rfl dX4_rankOfOpen_15 ?_
    refine k_aload_n hX (i := 0) rfl rfl dX4_rankOfOpen_17 ?_
    refine k_get hX (io_S hx0) fl_X4_30 rfl dX4_rankOfOpen_18 ?_
    refine k_icmp_ge (tgt := 72) hX dX4_rankOfOpen_21 (by decide) (fun b1 => ?_) (fun b1 => ?_)
    · refine k_iload_n hX (i := 3) rfl rfl dX4_rankOfOpen_72 ?_
      exact k_iret hX dX4_rankOfOpen_73
    refine k_aload_n hX (i := 0) rfl rfl dX4_rankOfOpen_24 ?_
    refine k_get hX (io_S hx0) fl_X4_17 rfl dX4_rankOfOpen_25 ?_
    refine k_iload hX rfl dX4_rankOfOpen_28 ?_
    refine k_aldW hX (iq_S2 hx0) dX4_rankOfOpen_30 (fun c2 gc2 => ?_)
    have hc2 := mlW_is hx0 gc2
    refine k_callVI (vs := []) hX (fun _ h9 => m_X5_sizeOfParts hX.2.2.2.2.2.2.1 hc2 h9) (io_W hc2) rfl ml_X4_49 ⟨Nat.le_of_ble_eq_true rfl, Nat.le_of_ble_eq_true rfl⟩ rfl rfl (Nat.le_of_ble_eq_true rfl) dX4_rankOfOpen_31 (fun q3 => ?_)
    refine k_istore (L' := [some (.ref (ad x0)), some (.int x1), some (.int x2), some (.int x3), some (.int x4), some (.int q3.1)]) hX (by decide) rfl dX4_rankOfOpen_34 ?_
    refine k_aload_n hX (i := 0) rfl rfl dX4_rankOfOpen_36 ?_
    refine k_iload hX rfl dX4_rankOfOpen_37 ?_
    refine k_callVI (vs := [.int x4]) hX (fun _ h9 => m_X4_isOpen hX.2.2.2.2.2.2.1 hx0 h9) (io_S hx0) rfl ml_X4_53 ⟨Nat.le_of_ble_eq_true rfl, Nat.le_of_ble_eq_true rfl⟩ rfl rfl (Nat.le_of_ble_eq_true rfl) dX4_rankOfOpen_39 (fun q4 => ?_)
    refine k_if_eq (tgt := 66) hX dX4_rankOfOpen_42 (by decide) (fun b5 => ?_) (fun b5 => ?_)
    · exact w_X4_rankOfOpen_66 hX ih x0 x1 x2 x3 x4 hx0 q4.2 ⟨rfl, rfl, rfl, rfl, rfl, trivial⟩
    refine k_iload hX rfl dX4_rankOfOpen_45 ?_
    refine k_iload_n hX (i := 2) rfl rfl dX4_rankOfOpen_47 ?_
    refine k_icmp_gt (tgt := 63) hX dX4_rankOfOpen_48 (by decide) (fun b6 => ?_) (fun b6 => ?_)
    · exact w_X4_rankOfOpen_63 hX ih x0 x1 x2 x3 x4 hx0 q4.2 ⟨rfl, rfl, rfl, rfl, rfl, trivial⟩
    refine k_iload hX rfl dX4_rankOfOpen_51 ?_
    refine k_iload_n hX (i := 2) rfl rfl dX4_rankOfOpen_53 ?_
    refine k_icmp_ne (tgt := 66) hX dX4_rankOfOpen_54 (by decide) (fun b7 => ?_) (fun b7 => ?_)
    · exact w_X4_rankOfOpen_66 hX ih x0 x1 x2 x3 x4 hx0 q4.2 ⟨rfl, rfl, rfl, rfl, rfl, trivial⟩
    refine k_iload hX rfl dX4_rankOfOpen_57 ?_
    refine k_iload_n hX (i := 1) rfl rfl dX4_rankOfOpen_59 ?_
    refine k_icmp_ge (tgt := 66) hX dX4_rankOfOpen_60 (by decide) (fun b8 => ?_) (fun b8 => ?_)
    · exact w_X4_rankOfOpen_66 hX ih x0 x1 x2 x3 x4 hx0 q4.2 ⟨rfl, rfl, rfl, rfl, rfl, trivial⟩
    exact w_X4_rankOfOpen_63 hX ih x0 x1 x2 x3 x4 hx0 q4.2 ⟨rfl, rfl, rfl, rfl, rfl, trivial⟩
set_option maxHeartbeats 4000000 in
set_option maxRecDepth 100000 in
theorem w_X4_rankOfOpen {l : Launch} {G : GL} {ad : Nat → Nat} {MM : Mem} {X : CT} (hX : Cx l { frames := 1, cells := 0, slots := 0, locals := 22 } cX4_rankOfOpen RX4 6 (some .int) G ad X) {c0 : Nat} {p1 : Int32} (hc0 : isSb c0 = true) {M : Mem} : KF l { frames := 1, cells := 0, slots := 0, locals := 22 } 6 G ad (EC G ad MM) (QP PostI G ad (EC G ad MM)) X (f_X4_rankOfOpen c0 p1 M) [some (.ref (ad c0)), some (.int p1), none, none, none, none] 0 [] M := by
  unfold f_X4_rankOfOpen
  refine k_aload_n hX (i := 0) rfl rfl dX4_rankOfOpen_0 ?_
  refine k_get hX (io_S hc0) fl_X4_17 rfl dX4_rankOfOpen_1 ?_
  refine k_iload_n hX (i := 1) rfl rfl dX4_rankOfOpen_4 ?_
  refine k_aldW hX (iq_S2 hc0) dX4_rankOfOpen_5 (fun c1 gc1 => ?_)
  have hc1 := mlW_is hc0 gc1
  refine k_callVI (vs := []) hX (fun _ h9 => m_X5_sizeOfParts hX.2.2.2.2.2.2.1 hc1 h9) (io_W hc1) rfl ml_X4_49 ⟨Nat.le_of_ble_eq_true rfl, Nat.le_of_ble_eq_true rfl⟩ rfl rfl (Nat.le_of_ble_eq_true rfl) dX4_rankOfOpen_6 (fun q2 => ?_)
  refine k_istore_n (L' := [some (.ref (ad c0)), some (.int p1), some (.int q2.1), none, none, none]) hX (i := 2) rfl (by decide) rfl dX4_rankOfOpen_9 ?_
  refine k_iconst (v := (nI 0)) hX rfl dX4_rankOfOpen_10 ?_
  refine k_istore_n (L' := [some (.ref (ad c0)), some (.int p1), some (.int q2.1), some (.int (nI 0)), none, none]) hX (i := 3) rfl (by decide) rfl dX4_rankOfOpen_11 ?_
  refine k_iconst (v := (nI 0)) hX rfl dX4_rankOfOpen_12 ?_
  refine k_istore (L' := [some (.ref (ad c0)), some (.int p1), some (.int q2.1), some (.int (nI 0)), some (.int (nI 0)), none]) hX (by decide) rfl dX4_rankOfOpen_13 ?_
  exact w_X4_rankOfOpen_15 hX fuelN c0 p1 q2.1 (nI 0) (nI 0) hc0 q2.2 ⟨rfl, rfl, rfl, rfl, rfl, trivial⟩
set_option maxRecDepth 100000 in
theorem m_X4_rankOfOpen {l : Launch} {G : GL} {ad : Nat → Nat} {MM : Mem} (hAd : AdOK G ad) {c0 : Nat} {p1 : Int32} (hc0 : isSb c0 = true) {M : Mem} {r : Rv} (h : f_X4_rankOfOpen c0 p1 M = some r) : Ct PostI l G ad (EC G ad MM) yX4_rankOfOpen cX4_rankOfOpen 6 (some .int) 1 22 [.ref (ad c0), .int p1] M r := ct_of' hAd (by decide +kernel) (List.forall_mem_cons.mpr ⟨rfl, (List.forall_mem_cons.mpr ⟨rfl, (fun _ h => absurd h List.not_mem_nil)⟩)⟩) (Nat.le_of_ble_eq_true rfl) (L := [some (.ref (ad c0)), some (.int p1), none, none, none, none]) rfl (fun _ hX => w_X4_rankOfOpen hX hc0) h
set_option maxHeartbeats 4000000 in
set_option maxRecDepth 100000 in
theorem w_X4_howMany_40 {l : Launch} {G : GL} {ad : Nat → Nat} {MM : Mem} {X : CT} (hX : Cx l { frames := 0, cells := 0, slots := 0, locals := 0 } cX4_howMany RX4 4 (some .int) G ad X) {k4 : Nat → Int32 → Int32 → Int32 → Mem → Option Rv} (hk4 : ∀ (x0 : Nat) (x1 : Int32) (x2 : Int32) (x3 : Int32) (hx0 : isSb x0 = true) (M : Mem) {L : List (Option Value)}, lsub [some (.ref (ad x0)), some (.int x1), some (.int x2), some (.int x3)] L → KF l { frames := 0, cells := 0, slots := 0, locals := 0 } 4 G ad (EC G ad MM) (QP PostI G ad (EC G ad MM)) X (k4 x0 x1 x2 x3 M) L 4 [] M) : ∀ (x0 : Nat) (x1 : Int32) (x2 : Int32) (x3 : Int32) (hx0 : isSb x0 = true) (M : Mem) {L : List (Option Value)}, lsub [some (.ref (ad x0)), some (.int x1), some (.int x2), some (.int x3)] L → KF l { frames := 0, cells := 0, slots := 0, locals := 0 } 4 G ad (EC G ad MM) (QP PostI G ad (EC G ad MM)) X (f_X4_howMany_40 k4 x0 x1 x2 x3 M) L 40 [] M := by
  intro x0 x1 x2 x3 hx0 M L hL
  unfold f_X4_howMany_40
  refine KF.locals (lsub_le hL) ?_
  refine k_iinc (v := x3 + nI 1) (L' := [some (.ref (ad x0)), some (.int x1), some (.int x2), some (.int (x3 + nI 1))]) hX (i := 3) rfl rfl (by decide) rfl dX4_howMany_40 ?_
  refine k_goto (tgt := 4) hX dX4_howMany_43 (by decide) ?_
  exact hk4 x0 x1 x2 (x3 + nI 1) hx0 M ⟨rfl, rfl, rfl, rfl, trivial⟩
set_option maxHeartbeats 4000000 in
set_option maxRecDepth 100000 in
theorem w_X4_howMany_4 {l : Launch} {G : GL} {ad : Nat → Nat} {MM : Mem} {X : CT} (hX : Cx l { frames := 0, cells := 0, slots := 0, locals := 0 } cX4_howMany RX4 4 (some .int) G ad X) : ∀ (n : Nat), ∀ (x0 : Nat) (x1 : Int32) (x2 : Int32) (x3 : Int32) (hx0 : isSb x0 = true) (M : Mem) {L : List (Option Value)}, lsub [some (.ref (ad x0)), some (.int x1), some (.int x2), some (.int x3)] L → KF l { frames := 0, cells := 0, slots := 0, locals := 0 } 4 G ad (EC G ad MM) (QP PostI G ad (EC G ad MM)) X (f_X4_howMany_4 n x0 x1 x2 x3 M) L 4 [] M := by
  intro n
  induction n with
  | zero =>
    intro x0 x1 x2 x3 hx0 M L hL
    exact KF.none'
  | succ n ih =>
    intro x0 x1 x2 x3 hx0 M L hL
    rw [f_X4_howMany_4]
    refine KF.locals (lsub_le hL) ?_
    refine k_iload_n hX (i := 3) rfl rfl dX4_howMany_4 ?_
    refine k_aload_n hX (i := 0) rfl rfl dX4_howMany_5 ?_
    refine k_get hX (io_S hx0) fl_X4_30 rfl dX4_howMany_6 ?_
    refine k_icmp_ge (tgt := 46) hX dX4_howMany_9 (by decide) (fun b1 => ?_) (fun b1 => ?_)
    · refine k_iload_n hX (i := 2) rfl rfl dX4_howMany_46 ?_
      exact k_iret hX dX4_howMany_47
    refine k_aload_n hX (i := 0) rfl rfl dX4_howMany_12 ?_
    refine k_get hX (io_S hx0) fl_X4_17 rfl dX4_howMany_13 ?_
    refine k_iload_n hX (i := 3) rfl rfl dX4_howMany_16 ?_
    refine k_aldW hX (iq_S2 hx0) dX4_howMany_17 (fun c2 gc2 => ?_)
    have hc2 := mlW_is hx0 gc2
    refine k_get hX (io_W hc2) fl_X4_43 rfl dX4_howMany_18 ?_
    refine k_if_eq (tgt := 40) hX dX4_howMany_21 (by decide) (fun b3 => ?_) (fun b3 => ?_)
    · exact w_X4_howMany_40 hX ih x0 x1 x2 x3 hx0 M ⟨rfl, rfl, rfl, rfl, trivial⟩
    refine k_aload_n hX (i := 0) rfl rfl dX4_howMany_24 ?_
    refine k_get hX (io_S hx0) fl_X4_17 rfl dX4_howMany_25 ?_
    refine k_iload_n hX (i := 3) rfl rfl dX4_howMany_28 ?_
    refine k_aldW hX (iq_S2 hx0) dX4_howMany_29 (fun c4 gc4 => ?_)
    have hc4 := mlW_is hx0 gc4
    refine k_get hX (io_W hc4) fl_X4_46 rfl dX4_howMany_30 ?_
    refine k_iload_n hX (i := 1) rfl rfl dX4_howMany_33 ?_
    refine k_icmp_ne (tgt := 40) hX dX4_howMany_34 (by decide) (fun b5 => ?_) (fun b5 => ?_)
    · exact w_X4_howMany_40 hX ih x0 x1 x2 x3 hx0 M ⟨rfl, rfl, rfl, rfl, trivial⟩
    refine k_iinc (v := x2 + nI 1) (L' := [some (.ref (ad x0)), some (.int x1), some (.int (x2 + nI 1)), some (.int x3)]) hX (i := 2) rfl rfl (by decide) rfl dX4_howMany_37 ?_
    exact w_X4_howMany_40 hX ih x0 x1 (x2 + nI 1) x3 hx0 M ⟨rfl, rfl, rfl, rfl, trivial⟩
set_option maxHeartbeats 4000000 in
set_option maxRecDepth 100000 in
theorem w_X4_howMany {l : Launch} {G : GL} {ad : Nat → Nat} {MM : Mem} {X : CT} (hX : Cx l { frames := 0, cells := 0, slots := 0, locals := 0 } cX4_howMany RX4 4 (some .int) G ad X) {c0 : Nat} {p1 : Int32} (hc0 : isSb c0 = true) {M : Mem} : KF l { frames := 0, cells := 0, slots := 0, locals := 0 } 4 G ad (EC G ad MM) (QP PostI G ad (EC G ad MM)) X (f_X4_howMany c0 p1 M) [some (.ref (ad c0)), some (.int p1), none, none] 0 [] M := by
  unfold f_X4_howMany
  refine k_iconst (v := (nI 0)) hX rfl dX4_howMany_0 ?_
  refine k_istore_n (L' := [some (.ref (ad c0)), some (.int p1), some (.int (nI 0)), none]) hX (i := 2) rfl (by decide) rfl dX4_howMany_1 ?_
  refine k_iconst (v := (nI 0)) hX rfl dX4_howMany_2 ?_
  refine k_istore_n (L' := [some (.ref (ad c0)), some (.int p1), some (.int (nI 0)), some (.int (nI 0))]) hX (i := 3) rfl (by decide) rfl dX4_howMany_3 ?_
  exact w_X4_howMany_4 hX fuelN c0 p1 (nI 0) (nI 0) hc0 M ⟨rfl, rfl, rfl, rfl, trivial⟩
set_option maxRecDepth 100000 in
theorem m_X4_howMany {l : Launch} {G : GL} {ad : Nat → Nat} {MM : Mem} (hAd : AdOK G ad) {c0 : Nat} {p1 : Int32} (hc0 : isSb c0 = true) {M : Mem} {r : Rv} (h : f_X4_howMany c0 p1 M = some r) : Ct PostI l G ad (EC G ad MM) yX4_howMany cX4_howMany 4 (some .int) 0 0 [.ref (ad c0), .int p1] M r := ct_of' hAd (by decide +kernel) (List.forall_mem_cons.mpr ⟨rfl, (List.forall_mem_cons.mpr ⟨rfl, (fun _ h => absurd h List.not_mem_nil)⟩)⟩) (Nat.le_of_ble_eq_true rfl) (L := [some (.ref (ad c0)), some (.int p1), none, none]) rfl (fun _ hX => w_X4_howMany hX hc0) h
set_option maxHeartbeats 4000000 in
set_option maxRecDepth 100000 in
theorem w_X4_howManyThere {l : Launch} {G : GL} {ad : Nat → Nat} {MM : Mem} {X : CT} (hX : Cx l { frames := 1, cells := 0, slots := 0, locals := 23 } cX4_howManyThere RX4 1 (some .int) G ad X) {c0 : Nat} (hc0 : isSb c0 = true) {M : Mem} : KF l { frames := 1, cells := 0, slots := 0, locals := 23 } 1 G ad (EC G ad MM) (QP PostI G ad (EC G ad MM)) X (f_X4_howManyThere c0 M) [some (.ref (ad c0))] 0 [] M := by
  unfold f_X4_howManyThere
  refine k_aload_n hX (i := 0) rfl rfl dX4_howManyThere_0 ?_
  refine k_iconst (v := (nI 0)) hX rfl dX4_howManyThere_1 ?_
  refine k_callVI (vs := [.int (nI 0)]) hX (fun _ h9 => m_X4_howMany hX.2.2.2.2.2.2.1 hc0 h9) (io_S hc0) rfl ml_X4_57 ⟨Nat.le_of_ble_eq_true rfl, Nat.le_of_ble_eq_true rfl⟩ rfl rfl (Nat.le_of_ble_eq_true rfl) dX4_howManyThere_2 (fun q1 => ?_)
  refine k_aload_n hX (i := 0) rfl rfl dX4_howManyThere_5 ?_
  refine k_iconst (v := (nI 1)) hX rfl dX4_howManyThere_6 ?_
  refine k_callVI (vs := [.int (nI 1)]) hX (fun _ h9 => m_X4_howMany hX.2.2.2.2.2.2.1 hc0 h9) (io_S hc0) rfl ml_X4_57 ⟨Nat.le_of_ble_eq_true rfl, Nat.le_of_ble_eq_true rfl⟩ rfl rfl (Nat.le_of_ble_eq_true rfl) dX4_howManyThere_7 (fun q2 => ?_)
  refine k_iadd hX dX4_howManyThere_10 ?_
  refine k_aload_n hX (i := 0) rfl rfl dX4_howManyThere_11 ?_
  refine k_iconst (v := (nI 2)) hX rfl dX4_howManyThere_12 ?_
  refine k_callVI (vs := [.int (nI 2)]) hX (fun _ h9 => m_X4_howMany hX.2.2.2.2.2.2.1 hc0 h9) (io_S hc0) rfl ml_X4_57 ⟨Nat.le_of_ble_eq_true rfl, Nat.le_of_ble_eq_true rfl⟩ rfl rfl (Nat.le_of_ble_eq_true rfl) dX4_howManyThere_13 (fun q3 => ?_)
  refine k_iadd hX dX4_howManyThere_16 ?_
  exact k_iret hX dX4_howManyThere_17
set_option maxRecDepth 100000 in
theorem m_X4_howManyThere {l : Launch} {G : GL} {ad : Nat → Nat} {MM : Mem} (hAd : AdOK G ad) {c0 : Nat} (hc0 : isSb c0 = true) {M : Mem} {r : Rv} (h : f_X4_howManyThere c0 M = some r) : Ct PostI l G ad (EC G ad MM) yX4_howManyThere cX4_howManyThere 1 (some .int) 1 23 [.ref (ad c0)] M r := ct_of' hAd (by decide +kernel) (List.forall_mem_cons.mpr ⟨rfl, (fun _ h => absurd h List.not_mem_nil)⟩) (Nat.le_of_ble_eq_true rfl) (L := [some (.ref (ad c0))]) rfl (fun _ hX => w_X4_howManyThere hX hc0) h
set_option maxHeartbeats 4000000 in
set_option maxRecDepth 100000 in
theorem w_X5_partsThatAre_31 {l : Launch} {G : GL} {ad : Nat → Nat} {MM : Mem} {X : CT} (hX : Cx l { frames := 0, cells := 0, slots := 0, locals := 0 } cX5_partsThatAre RX5 4 (some .int) G ad X) {k4 : Nat → Int32 → Int32 → Int32 → Mem → Option Rv} (hk4 : ∀ (x0 : Nat) (x1 : Int32) (x2 : Int32) (x3 : Int32) (hx0 : isWb x0 = true) (M : Mem) {L : List (Option Value)}, lsub [some (.ref (ad x0)), some (.int x1), some (.int x2), some (.int x3)] L → KF l { frames := 0, cells := 0, slots := 0, locals := 0 } 4 G ad (EC G ad MM) (QP PostI G ad (EC G ad MM)) X (k4 x0 x1 x2 x3 M) L 4 [] M) : ∀ (x0 : Nat) (x1 : Int32) (x2 : Int32) (x3 : Int32) (hx0 : isWb x0 = true) (M : Mem) {L : List (Option Value)}, lsub [some (.ref (ad x0)), some (.int x1), some (.int x2), some (.int x3)] L → KF l { frames := 0, cells := 0, slots := 0, locals := 0 } 4 G ad (EC G ad MM) (QP PostI G ad (EC G ad MM)) X (f_X5_partsThatAre_31 k4 x0 x1 x2 x3 M) L 31 [] M := by
  intro x0 x1 x2 x3 hx0 M L hL
  unfold f_X5_partsThatAre_31
  refine KF.locals (lsub_le hL) ?_
  refine k_iinc (v := x3 + nI 1) (L' := [some (.ref (ad x0)), some (.int x1), some (.int x2), some (.int (x3 + nI 1))]) hX (i := 3) rfl rfl (by decide) rfl dX5_partsThatAre_31 ?_
  refine k_goto (tgt := 4) hX dX5_partsThatAre_34 (by decide) ?_
  exact hk4 x0 x1 x2 (x3 + nI 1) hx0 M ⟨rfl, rfl, rfl, rfl, trivial⟩
set_option maxHeartbeats 4000000 in
set_option maxRecDepth 100000 in
theorem w_X5_partsThatAre_4 {l : Launch} {G : GL} {ad : Nat → Nat} {MM : Mem} {X : CT} (hX : Cx l { frames := 0, cells := 0, slots := 0, locals := 0 } cX5_partsThatAre RX5 4 (some .int) G ad X) : ∀ (n : Nat), ∀ (x0 : Nat) (x1 : Int32) (x2 : Int32) (x3 : Int32) (hx0 : isWb x0 = true) (M : Mem) {L : List (Option Value)}, lsub [some (.ref (ad x0)), some (.int x1), some (.int x2), some (.int x3)] L → KF l { frames := 0, cells := 0, slots := 0, locals := 0 } 4 G ad (EC G ad MM) (QP PostI G ad (EC G ad MM)) X (f_X5_partsThatAre_4 n x0 x1 x2 x3 M) L 4 [] M := by
  intro n
  induction n with
  | zero =>
    intro x0 x1 x2 x3 hx0 M L hL
    exact KF.none'
  | succ n ih =>
    intro x0 x1 x2 x3 hx0 M L hL
    rw [f_X5_partsThatAre_4]
    refine KF.locals (lsub_le hL) ?_
    refine k_iload_n hX (i := 3) rfl rfl dX5_partsThatAre_4 ?_
    refine k_aload_n hX (i := 0) rfl rfl dX5_partsThatAre_5 ?_
    refine k_get hX (io_W hx0) fl_X5_22 rfl dX5_partsThatAre_6 ?_
    refine k_icmp_ge (tgt := 37) hX dX5_partsThatAre_9 (by decide) (fun b1 => ?_) (fun b1 => ?_)
    · refine k_iload_n hX (i := 2) rfl rfl dX5_partsThatAre_37 ?_
      exact k_iret hX dX5_partsThatAre_38
    refine k_aload_n hX (i := 0) rfl rfl dX5_partsThatAre_12 ?_
    refine k_get hX (io_W hx0) fl_X5_15 rfl dX5_partsThatAre_13 ?_
    refine k_iload_n hX (i := 3) rfl rfl dX5_partsThatAre_16 ?_
    refine k_bipush (v := (nI 120)) hX rfl dX5_partsThatAre_17 ?_
    refine k_imul hX dX5_partsThatAre_19 ?_
    refine k_ald hX (ia_W2 hx0) dX5_partsThatAre_20 (fun v2 => ?_)
    refine k_iload_n hX (i := 1) rfl rfl dX5_partsThatAre_21 ?_
    refine k_icmp_ne (tgt := 31) hX dX5_partsThatAre_22 (by decide) (fun b3 => ?_) (fun b3 => ?_)
    · exact w_X5_partsThatAre_31 hX ih x0 x1 x2 x3 hx0 M ⟨rfl, rfl, rfl, rfl, trivial⟩
    refine k_iload_n hX (i := 2) rfl rfl dX5_partsThatAre_25 ?_
    refine k_iconst (v := (nI 1)) hX rfl dX5_partsThatAre_26 ?_
    refine k_iload_n hX (i := 3) rfl rfl dX5_partsThatAre_27 ?_
    refine k_ishl hX dX5_partsThatAre_28 ?_
    refine k_ior hX dX5_partsThatAre_29 ?_
    refine k_istore_n (L' := [some (.ref (ad x0)), some (.int x1), some (.int (x2 ||| ((nI 1) <<< (x3 &&& nI 31)))), some (.int x3)]) hX (i := 2) rfl (by decide) rfl dX5_partsThatAre_30 ?_
    exact w_X5_partsThatAre_31 hX ih x0 x1 (x2 ||| ((nI 1) <<< (x3 &&& nI 31))) x3 hx0 M ⟨rfl, rfl, rfl, rfl, trivial⟩
set_option maxHeartbeats 4000000 in
set_option maxRecDepth 100000 in
theorem w_X5_partsThatAre {l : Launch} {G : GL} {ad : Nat → Nat} {MM : Mem} {X : CT} (hX : Cx l { frames := 0, cells := 0, slots := 0, locals := 0 } cX5_partsThatAre RX5 4 (some .int) G ad X) {c0 : Nat} {p1 : Int32} (hc0 : isWb c0 = true) {M : Mem} : KF l { frames := 0, cells := 0, slots := 0, locals := 0 } 4 G ad (EC G ad MM) (QP PostI G ad (EC G ad MM)) X (f_X5_partsThatAre c0 p1 M) [some (.ref (ad c0)), some (.int p1), none, none] 0 [] M := by
  unfold f_X5_partsThatAre
  refine k_iconst (v := (nI 0)) hX rfl dX5_partsThatAre_0 ?_
  refine k_istore_n (L' := [some (.ref (ad c0)), some (.int p1), some (.int (nI 0)), none]) hX (i := 2) rfl (by decide) rfl dX5_partsThatAre_1 ?_
  refine k_iconst (v := (nI 0)) hX rfl dX5_partsThatAre_2 ?_
  refine k_istore_n (L' := [some (.ref (ad c0)), some (.int p1), some (.int (nI 0)), some (.int (nI 0))]) hX (i := 3) rfl (by decide) rfl dX5_partsThatAre_3 ?_
  exact w_X5_partsThatAre_4 hX fuelN c0 p1 (nI 0) (nI 0) hc0 M ⟨rfl, rfl, rfl, rfl, trivial⟩
set_option maxRecDepth 100000 in
theorem m_X5_partsThatAre {l : Launch} {G : GL} {ad : Nat → Nat} {MM : Mem} (hAd : AdOK G ad) {c0 : Nat} {p1 : Int32} (hc0 : isWb c0 = true) {M : Mem} {r : Rv} (h : f_X5_partsThatAre c0 p1 M = some r) : Ct PostI l G ad (EC G ad MM) yX5_partsThatAre cX5_partsThatAre 4 (some .int) 0 0 [.ref (ad c0), .int p1] M r := ct_of' hAd (by decide +kernel) (List.forall_mem_cons.mpr ⟨rfl, (List.forall_mem_cons.mpr ⟨rfl, (fun _ h => absurd h List.not_mem_nil)⟩)⟩) (Nat.le_of_ble_eq_true rfl) (L := [some (.ref (ad c0)), some (.int p1), none, none]) rfl (fun _ hX => w_X5_partsThatAre hX hc0) h
set_option maxHeartbeats 4000000 in
set_option maxRecDepth 100000 in
theorem w_X5_verdictOfParts_31 {l : Launch} {G : GL} {ad : Nat → Nat} {MM : Mem} {X : CT} (hX : Cx l { frames := 1, cells := 0, slots := 0, locals := 23 } cX5_verdictOfParts RX5 1 (some .int) G ad X) : ∀ (s0 : Int32) (M : Mem) {L : List (Option Value)}, lsub [none] L → KF l { frames := 1, cells := 0, slots := 0, locals := 23 } 1 G ad (EC G ad MM) (QP PostI G ad (EC G ad MM)) X (f_X5_verdictOfParts_31 s0 M) L 31 [.int s0] M := by
  intro s0 M L hL
  unfold f_X5_verdictOfParts_31
  refine KF.locals (lsub_le hL) ?_
  exact k_iret hX dX5_verdictOfParts_31
set_option maxHeartbeats 4000000 in
set_option maxRecDepth 100000 in
theorem w_X5_verdictOfParts {l : Launch} {G : GL} {ad : Nat → Nat} {MM : Mem} {X : CT} (hX : Cx l { frames := 1, cells := 0, slots := 0, locals := 23 } cX5_verdictOfParts RX5 1 (some .int) G ad X) {c0 : Nat} (hc0 : isWb c0 = true) {M : Mem} : KF l { frames := 1, cells := 0, slots := 0, locals := 23 } 1 G ad (EC G ad MM) (QP PostI G ad (EC G ad MM)) X (f_X5_verdictOfParts c0 M) [some (.ref (ad c0))] 0 [] M := by
  unfold f_X5_verdictOfParts
  refine k_aload_n hX (i := 0) rfl rfl dX5_verdictOfParts_0 ?_
  refine k_iconst (v := (nI 0)) hX rfl dX5_verdictOfParts_1 ?_
  refine k_callVI (vs := [.int (nI 0)]) hX (fun _ h9 => m_X5_partsThatAre hX.2.2.2.2.2.2.1 hc0 h9) (io_W hc0) rfl ml_X5_48 ⟨Nat.le_of_ble_eq_true rfl, Nat.le_of_ble_eq_true rfl⟩ rfl rfl (Nat.le_of_ble_eq_true rfl) dX5_verdictOfParts_2 (fun q1 => ?_)
  refine k_if_eq (tgt := 10) hX dX5_verdictOfParts_5 (by decide) (fun b2 => ?_) (fun b2 => ?_)
  · refine k_aload_n hX (i := 0) rfl rfl dX5_verdictOfParts_10 ?_
    refine k_iconst (v := (nI 1)) hX rfl dX5_verdictOfParts_11 ?_
    refine k_callVI (vs := [.int (nI 1)]) hX (fun _ h9 => m_X5_partsThatAre hX.2.2.2.2.2.2.1 hc0 h9) (io_W hc0) rfl ml_X5_48 ⟨Nat.le_of_ble_eq_true rfl, Nat.le_of_ble_eq_true rfl⟩ rfl rfl (Nat.le_of_ble_eq_true rfl) dX5_verdictOfParts_12 (fun q3 => ?_)
    refine k_iconst (v := (nI 1)) hX rfl dX5_verdictOfParts_15 ?_
    refine k_aload_n hX (i := 0) rfl rfl dX5_verdictOfParts_16 ?_
    refine k_get hX (io_W hc0) fl_X5_22 rfl dX5_verdictOfParts_17 ?_
    refine k_ishl hX dX5_verdictOfParts_20 ?_
    refine k_iconst (v := (nI 1)) hX rfl dX5_verdictOfParts_21 ?_
    refine k_isub hX dX5_verdictOfParts_22 ?_
    refine k_icmp_ne (tgt := 30) hX dX5_verdictOfParts_23 (by decide) (fun b4 => ?_) (fun b4 => ?_)
    · refine k_iconst (v := (nI 2)) hX rfl dX5_verdictOfParts_30 ?_
      exact w_X5_verdictOfParts_31 hX (nI 2) q3.2 trivial
    refine k_iconst (v := (nI 1)) hX rfl dX5_verdictOfParts_26 ?_
    refine k_goto (tgt := 31) hX dX5_verdictOfParts_27 (by decide) ?_
    exact w_X5_verdictOfParts_31 hX (nI 1) q3.2 trivial
  refine k_iconst (v := (nI 0)) hX rfl dX5_verdictOfParts_8 ?_
  exact k_iret hX dX5_verdictOfParts_9
set_option maxRecDepth 100000 in
theorem m_X5_verdictOfParts {l : Launch} {G : GL} {ad : Nat → Nat} {MM : Mem} (hAd : AdOK G ad) {c0 : Nat} (hc0 : isWb c0 = true) {M : Mem} {r : Rv} (h : f_X5_verdictOfParts c0 M = some r) : Ct PostI l G ad (EC G ad MM) yX5_verdictOfParts cX5_verdictOfParts 1 (some .int) 1 23 [.ref (ad c0)] M r := ct_of' hAd (by decide +kernel) (List.forall_mem_cons.mpr ⟨rfl, (fun _ h => absurd h List.not_mem_nil)⟩) (Nat.le_of_ble_eq_true rfl) (L := [some (.ref (ad c0))]) rfl (fun _ hX => w_X5_verdictOfParts hX hc0) h
set_option maxHeartbeats 4000000 in
set_option maxRecDepth 100000 in
theorem w_X5_come {l : Launch} {G : GL} {ad : Nat → Nat} {MM : Mem} {X : CT} (hX : Cx l { frames := 2, cells := 0, slots := 0, locals := 43 } cX5_come RX5 3 none G ad X) {c0 : Nat} {p1 : Int32} {p2 : Int32} (hc0 : isWb c0 = true) {M : Mem} : KF l { frames := 2, cells := 0, slots := 0, locals := 43 } 3 G ad (EC G ad MM) (QP PostV G ad (EC G ad MM)) X (f_X5_come c0 p1 p2 M) [some (.ref (ad c0)), some (.int p1), some (.int p2)] 0 [] M := by
  unfold f_X5_come
  refine k_aload_n hX (i := 0) rfl rfl dX5_come_0 ?_
  refine k_iconst (v := (nI 1)) hX rfl dX5_come_1 ?_
  refine k_putz hX locC (io_W hc0) fp_X5_18 (Nat.le_of_ble_eq_true rfl) rfl dX5_come_2 (fun M1 => ?_)
  refine k_aload_n hX (i := 0) rfl rfl dX5_come_5 ?_
  refine k_iload_n hX (i := 1) rfl rfl dX5_come_6 ?_
  refine k_puti hX locC (io_W hc0) fp_X5_22 (Nat.le_of_ble_eq_true rfl) rfl dX5_come_7 (fun M2 => ?_)
  refine k_aload_n hX (i := 0) rfl rfl dX5_come_10 ?_
  refine k_aload_n hX (i := 0) rfl rfl dX5_come_11 ?_
  refine k_callVI (vs := []) hX (fun _ h9 => m_X5_verdictOfParts hX.2.2.2.2.2.2.1 hc0 h9) (io_W hc0) rfl ml_X5_26 ⟨Nat.le_of_ble_eq_true rfl, Nat.le_of_ble_eq_true rfl⟩ rfl rfl (Nat.le_of_ble_eq_true rfl) dX5_come_12 (fun q3 => ?_)
  refine k_puti hX locC (io_W hc0) fp_X5_30 (Nat.le_of_ble_eq_true rfl) rfl dX5_come_15 (fun M4 => ?_)
  refine k_aload_n hX (i := 0) rfl rfl dX5_come_18 ?_
  refine k_bipush (v := (-5)) hX rfl dX5_come_19 ?_
  refine k_puti hX locC (io_W hc0) fp_X5_33 (Nat.le_of_ble_eq_true rfl) rfl dX5_come_21 (fun M5 => ?_)
  refine k_aload_n hX (i := 0) rfl rfl dX5_come_24 ?_
  refine k_iconst (v := (nI 0)) hX rfl dX5_come_25 ?_
  refine k_puti hX locC (io_W hc0) fp_X5_36 (Nat.le_of_ble_eq_true rfl) rfl dX5_come_26 (fun M6 => ?_)
  refine k_aload_n hX (i := 0) rfl rfl dX5_come_29 ?_
  refine k_iload_n hX (i := 2) rfl rfl dX5_come_30 ?_
  refine k_puti hX locC (io_W hc0) fp_X5_39 (Nat.le_of_ble_eq_true rfl) rfl dX5_come_31 (fun M7 => ?_)
  exact k_vret hX dX5_come_34
set_option maxRecDepth 100000 in
theorem m_X5_come {l : Launch} {G : GL} {ad : Nat → Nat} {MM : Mem} (hAd : AdOK G ad) {c0 : Nat} {p1 : Int32} {p2 : Int32} (hc0 : isWb c0 = true) {M : Mem} {r : Rv} (h : f_X5_come c0 p1 p2 M = some r) : Ct PostV l G ad (EC G ad MM) yX5_come cX5_come 3 none 2 43 [.ref (ad c0), .int p1, .int p2] M r := ct_of' hAd (by decide +kernel) (List.forall_mem_cons.mpr ⟨rfl, (List.forall_mem_cons.mpr ⟨rfl, (List.forall_mem_cons.mpr ⟨rfl, (fun _ h => absurd h List.not_mem_nil)⟩)⟩)⟩) (Nat.le_of_ble_eq_true rfl) (L := [some (.ref (ad c0)), some (.int p1), some (.int p2)]) rfl (fun _ hX => w_X5_come hX hc0) h
set_option maxHeartbeats 4000000 in
set_option maxRecDepth 100000 in
theorem w_X5_judge {l : Launch} {G : GL} {ad : Nat → Nat} {MM : Mem} {X : CT} (hX : Cx l { frames := 2, cells := 0, slots := 0, locals := 43 } cX5_judge RX5 2 (some .boolean) G ad X) {c0 : Nat} {p1 : Int32} (hc0 : isWb c0 = true) {M : Mem} : KF l { frames := 2, cells := 0, slots := 0, locals := 43 } 2 G ad (EC G ad MM) (QP PostI G ad (EC G ad MM)) X (f_X5_judge c0 p1 M) [some (.ref (ad c0)), some (.int p1)] 0 [] M := by
  unfold f_X5_judge
  refine k_aload_n hX (i := 0) rfl rfl dX5_judge_0 ?_
  refine k_aload_n hX (i := 0) rfl rfl dX5_judge_1 ?_
  refine k_callVI (vs := []) hX (fun _ h9 => m_X5_verdictOfParts hX.2.2.2.2.2.2.1 hc0 h9) (io_W hc0) rfl ml_X5_26 ⟨Nat.le_of_ble_eq_true rfl, Nat.le_of_ble_eq_true rfl⟩ rfl rfl (Nat.le_of_ble_eq_true rfl) dX5_judge_2 (fun q1 => ?_)
  refine k_puti hX locC (io_W hc0) fp_X5_30 (Nat.le_of_ble_eq_true rfl) rfl dX5_judge_5 (fun M2 => ?_)
  refine k_aload_n hX (i := 0) rfl rfl dX5_judge_8 ?_
  refine k_get hX (io_W hc0) fl_X5_30 rfl dX5_judge_9 ?_
  refine k_iconst (v := (nI 2)) hX rfl dX5_judge_12 ?_
  refine k_icmp_ne (tgt := 18) hX dX5_judge_13 (by decide) (fun b3 => ?_) (fun b3 => ?_)
  · refine k_aload_n hX (i := 0) rfl rfl dX5_judge_18 ?_
    refine k_iload_n hX (i := 1) rfl rfl dX5_judge_19 ?_
    refine k_puti hX locC (io_W hc0) fp_X5_33 (Nat.le_of_ble_eq_true rfl) rfl dX5_judge_20 (fun M4 => ?_)
    refine k_iconst (v := (nI 1)) hX rfl dX5_judge_23 ?_
    exact k_zret hX dX5_judge_24
  refine k_iconst (v := (nI 0)) hX rfl dX5_judge_16 ?_
  exact k_zret hX dX5_judge_17
set_option maxRecDepth 100000 in
theorem m_X5_judge {l : Launch} {G : GL} {ad : Nat → Nat} {MM : Mem} (hAd : AdOK G ad) {c0 : Nat} {p1 : Int32} (hc0 : isWb c0 = true) {M : Mem} {r : Rv} (h : f_X5_judge c0 p1 M = some r) : Ct PostI l G ad (EC G ad MM) yX5_judge cX5_judge 2 (some .boolean) 2 43 [.ref (ad c0), .int p1] M r := ct_of' hAd (by decide +kernel) (List.forall_mem_cons.mpr ⟨rfl, (List.forall_mem_cons.mpr ⟨rfl, (fun _ h => absurd h List.not_mem_nil)⟩)⟩) (Nat.le_of_ble_eq_true rfl) (L := [some (.ref (ad c0)), some (.int p1)]) rfl (fun _ hX => w_X5_judge hX hc0) h
set_option maxHeartbeats 4000000 in
set_option maxRecDepth 100000 in
theorem w_X6_recordAndGoOn_88 {l : Launch} {G : GL} {ad : Nat → Nat} {MM : Mem} {X : CT} (hX : Cx l { frames := 0, cells := 0, slots := 0, locals := 0 } cX6_recordAndGoOn RX6 3 none G ad X) : ∀ (x1 : Nat) (hx1 : isSb x1 = true) (M : Mem) {L : List (Option Value)}, lsub [some (.ref (ad 0)), some (.ref (ad x1)), none] L → KF l { frames := 0, cells := 0, slots := 0, locals := 0 } 3 G ad (EC G ad MM) (QP PostV G ad (EC G ad MM)) X (f_X6_recordAndGoOn_88 x1 M) L 88 [] M := by
  intro x1 hx1 M L hL
  unfold f_X6_recordAndGoOn_88
  refine KF.locals (lsub_le hL) ?_
  refine k_aload_n hX (i := 0) rfl rfl dX6_recordAndGoOn_88 ?_
  refine k_aload_n hX (i := 0) rfl rfl dX6_recordAndGoOn_89 ?_
  refine k_gets hX io_0 fl_X6_62 rfl dX6_recordAndGoOn_90 (fun c1 hc1 => ?_)
  refine k_puts hX locC io_0 fp_X6_59 (Nat.le_of_ble_eq_true rfl) (set6_8 hc1) dX6_recordAndGoOn_93 (fun M2 => ?_)
  refine k_aload_n hX (i := 0) rfl rfl dX6_recordAndGoOn_96 ?_
  refine k_aload_n hX (i := 1) rfl rfl dX6_recordAndGoOn_97 ?_
  refine k_puts hX locC io_0 fp_X6_62 (Nat.le_of_ble_eq_true rfl) (set6_9 hx1) dX6_recordAndGoOn_98 (fun M3 => ?_)
  exact k_vret hX dX6_recordAndGoOn_101
set_option maxHeartbeats 4000000 in
set_option maxRecDepth 100000 in
theorem w_X6_recordAndGoOn_53 {l : Launch} {G : GL} {ad : Nat → Nat} {MM : Mem} {X : CT} (hX : Cx l { frames := 0, cells := 0, slots := 0, locals := 0 } cX6_recordAndGoOn RX6 3 none G ad X) : ∀ (n : Nat), ∀ (x1 : Nat) (x2 : Int32) (hx1 : isSb x1 = true) (M : Mem) {L : List (Option Value)}, lsub [some (.ref (ad 0)), some (.ref (ad x1)), some (.int x2)] L → KF l { frames := 0, cells := 0, slots := 0, locals := 0 } 3 G ad (EC G ad MM) (QP PostV G ad (EC G ad MM)) X (f_X6_recordAndGoOn_53 n x1 x2 M) L 53 [] M := by
  intro n
  induction n with
  | zero =>
    intro x1 x2 hx1 M L hL
    exact KF.none'
  | succ n ih =>
    intro x1 x2 hx1 M L hL
    rw [f_X6_recordAndGoOn_53]
    refine KF.locals (lsub_le hL) ?_
    refine k_iload_n hX (i := 2) rfl rfl dX6_recordAndGoOn_53 ?_
    refine k_iconst (v := (nI 4)) hX rfl dX6_recordAndGoOn_54 ?_
    refine k_icmp_ge (tgt := 78) hX dX6_recordAndGoOn_55 (by decide) (fun b1 => ?_) (fun b1 => ?_)
    · refine k_aload_n hX (i := 0) rfl rfl dX6_recordAndGoOn_78 ?_
      refine k_get hX io_0 fl_X6_50 rfl dX6_recordAndGoOn_79 ?_
      refine k_iconst (v := (nI 3)) hX rfl dX6_recordAndGoOn_82 ?_
      refine k_aload_n hX (i := 0) rfl rfl dX6_recordAndGoOn_83 ?_
      refine k_gets hX io_0 fl_X6_59 rfl dX6_recordAndGoOn_84 (fun c2 hc2 => ?_)
      refine k_astS hX locC iq_28 hc2 (io_S hc2) dX6_recordAndGoOn_87 (fun M3 => ?_)
      exact w_X6_recordAndGoOn_88 hX x1 hx1 M3 ⟨rfl, rfl, trivial⟩
    refine k_aload_n hX (i := 0) rfl rfl dX6_recordAndGoOn_58 ?_
    refine k_get hX io_0 fl_X6_50 rfl dX6_recordAndGoOn_59 ?_
    refine k_iload_n hX (i := 2) rfl rfl dX6_recordAndGoOn_62 ?_
    refine k_iconst (v := (nI 1)) hX rfl dX6_recordAndGoOn_63 ?_
    refine k_isub hX dX6_recordAndGoOn_64 ?_
    refine k_aload_n hX (i := 0) rfl rfl dX6_recordAndGoOn_65 ?_
    refine k_get hX io_0 fl_X6_50 rfl dX6_recordAndGoOn_66 ?_
    refine k_iload_n hX (i := 2) rfl rfl dX6_recordAndGoOn_69 ?_
    refine k_aldS hX iq_28 dX6_recordAndGoOn_70 (fun c4 hc4 => ?_)
    refine k_astS hX locC iq_28 hc4 (io_S hc4) dX6_recordAndGoOn_71 (fun M5 => ?_)
    refine k_iinc (v := x2 + nI 1) (L' := [some (.ref (ad 0)), some (.ref (ad x1)), some (.int (x2 + nI 1))]) hX (i := 2) rfl rfl (by decide) rfl dX6_recordAndGoOn_72 ?_
    refine k_goto (tgt := 53) hX dX6_recordAndGoOn_75 (by decide) ?_
    exact ih x1 (x2 + nI 1) hx1 M5 ⟨rfl, rfl, rfl, trivial⟩
set_option maxHeartbeats 4000000 in
set_option maxRecDepth 100000 in
theorem w_X6_recordAndGoOn {l : Launch} {G : GL} {ad : Nat → Nat} {MM : Mem} {X : CT} (hX : Cx l { frames := 0, cells := 0, slots := 0, locals := 0 } cX6_recordAndGoOn RX6 3 none G ad X) {M : Mem} : KF l { frames := 0, cells := 0, slots := 0, locals := 0 } 3 G ad (EC G ad MM) (QP PostV G ad (EC G ad MM)) X (f_X6_recordAndGoOn M) [some (.ref (ad 0)), none, none] 0 [] M := by
  unfold f_X6_recordAndGoOn
  refine k_aload_n hX (i := 0) rfl rfl dX6_recordAndGoOn_0 ?_
  refine k_get hX io_0 fl_X6_157 rfl dX6_recordAndGoOn_1 ?_
  refine k_iconst (v := (nI 4)) hX rfl dX6_recordAndGoOn_4 ?_
  refine k_icmp_ge (tgt := 44) hX dX6_recordAndGoOn_5 (by decide) (fun b1 => ?_) (fun b1 => ?_)
  · refine k_aload_n hX (i := 0) rfl rfl dX6_recordAndGoOn_44 ?_
    refine k_get hX io_0 fl_X6_50 rfl dX6_recordAndGoOn_45 ?_
    refine k_iconst (v := (nI 0)) hX rfl dX6_recordAndGoOn_48 ?_
    refine k_aldS hX iq_28 dX6_recordAndGoOn_49 (fun c2 hc2 => ?_)
    refine k_astore_n (L' := [some (.ref (ad 0)), some (.ref (ad c2)), none]) hX (i := 1) rfl (by decide) rfl dX6_recordAndGoOn_50 ?_
    refine k_iconst (v := (nI 1)) hX rfl dX6_recordAndGoOn_51 ?_
    refine k_istore_n (L' := [some (.ref (ad 0)), some (.ref (ad c2)), some (.int (nI 1))]) hX (i := 2) rfl (by decide) rfl dX6_recordAndGoOn_52 ?_
    exact w_X6_recordAndGoOn_53 hX fuelN c2 (nI 1) hc2 M ⟨rfl, rfl, rfl, trivial⟩
  refine k_aload_n hX (i := 0) rfl rfl dX6_recordAndGoOn_8 ?_
  refine k_get hX io_0 fl_X6_50 rfl dX6_recordAndGoOn_9 ?_
  refine k_aload_n hX (i := 0) rfl rfl dX6_recordAndGoOn_12 ?_
  refine k_get hX io_0 fl_X6_157 rfl dX6_recordAndGoOn_13 ?_
  refine k_aldS hX iq_28 dX6_recordAndGoOn_16 (fun c4 hc4 => ?_)
  refine k_astore_n (L' := [some (.ref (ad 0)), some (.ref (ad c4)), none]) hX (i := 1) rfl (by decide) rfl dX6_recordAndGoOn_17 ?_
  refine k_aload_n hX (i := 0) rfl rfl dX6_recordAndGoOn_18 ?_
  refine k_get hX io_0 fl_X6_50 rfl dX6_recordAndGoOn_19 ?_
  refine k_aload_n hX (i := 0) rfl rfl dX6_recordAndGoOn_22 ?_
  refine k_get hX io_0 fl_X6_157 rfl dX6_recordAndGoOn_23 ?_
  refine k_aload_n hX (i := 0) rfl rfl dX6_recordAndGoOn_26 ?_
  refine k_gets hX io_0 fl_X6_59 rfl dX6_recordAndGoOn_27 (fun c5 hc5 => ?_)
  refine k_astS hX locC iq_28 hc5 (io_S hc5) dX6_recordAndGoOn_30 (fun M6 => ?_)
  refine k_aload_n hX (i := 0) rfl rfl dX6_recordAndGoOn_31 ?_
  refine k_dup hX rfl dX6_recordAndGoOn_32 ?_
  refine k_get hX io_0 fl_X6_157 rfl dX6_recordAndGoOn_33 ?_
  refine k_iconst (v := (nI 1)) hX rfl dX6_recordAndGoOn_36 ?_
  refine k_iadd hX dX6_recordAndGoOn_37 ?_
  refine k_puti hX locC io_0 fp_X6_157 (Nat.le_of_ble_eq_true rfl) rfl dX6_recordAndGoOn_38 (fun M7 => ?_)
  refine k_goto (tgt := 88) hX dX6_recordAndGoOn_41 (by decide) ?_
  exact w_X6_recordAndGoOn_88 hX c4 hc4 M7 ⟨rfl, rfl, trivial⟩
set_option maxRecDepth 100000 in
theorem m_X6_recordAndGoOn {l : Launch} {G : GL} {ad : Nat → Nat} {MM : Mem} (hAd : AdOK G ad) {M : Mem} {r : Rv} (h : f_X6_recordAndGoOn M = some r) : Ct PostV l G ad (EC G ad MM) yX6_recordAndGoOn cX6_recordAndGoOn 3 none 0 0 [.ref (ad 0)] M r := ct_of' hAd (by decide +kernel) (List.forall_mem_cons.mpr ⟨rfl, (fun _ h => absurd h List.not_mem_nil)⟩) (Nat.le_of_ble_eq_true rfl) (L := [some (.ref (ad 0)), none, none]) rfl (fun _ hX => w_X6_recordAndGoOn hX) h
set_option maxHeartbeats 4000000 in
set_option maxRecDepth 100000 in
theorem w_X6_loadAlone {l : Launch} {G : GL} {ad : Nat → Nat} {MM : Mem} {X : CT} (hX : Cx l { frames := 3, cells := 0, slots := 0, locals := 83 } cX6_loadAlone RX6 3 (some .int) G ad X) {p1 : Nat} {p2 : Int32} (hp1 : isWb p1 = true) {M : Mem} : KF l { frames := 3, cells := 0, slots := 0, locals := 83 } 3 G ad (EC G ad MM) (QP PostI G ad (EC G ad MM)) X (f_X6_loadAlone p1 p2 M) [some (.ref (ad 0)), some (.ref (ad p1)), some (.int p2)] 0 [] M := by
  unfold f_X6_loadAlone
  refine k_aload_n hX (i := 0) rfl rfl dX6_loadAlone_0 ?_
  refine k_get hX io_0 fl_X6_12 rfl dX6_loadAlone_1 ?_
  refine k_bipush (v := (nI 16)) hX rfl dX6_loadAlone_4 ?_
  refine k_callVV (vs := [.int (nI 16)]) hX (fun _ h9 => m_X1_release hX.2.2.2.2.2.2.1  h9) io_1 rfl ml_X6_124 ⟨Nat.le_of_ble_eq_true rfl, Nat.le_of_ble_eq_true rfl⟩ rfl rfl (Nat.le_of_ble_eq_true rfl) dX6_loadAlone_6 (fun q1 => ?_)
  refine k_aload_n hX (i := 0) rfl rfl dX6_loadAlone_9 ?_
  refine k_get hX io_0 fl_X6_28 rfl dX6_loadAlone_10 ?_
  refine k_aload_n hX (i := 1) rfl rfl dX6_loadAlone_13 ?_
  refine k_iload_n hX (i := 2) rfl rfl dX6_loadAlone_14 ?_
  refine k_callVI (vs := [.ref (ad p1), .int p2]) hX (fun _ h9 => m_X3_load hX.2.2.2.2.2.2.1 hp1 h9) io_17 rfl ml_X6_240 ⟨Nat.le_of_ble_eq_true rfl, Nat.le_of_ble_eq_true rfl⟩ rfl rfl (Nat.le_of_ble_eq_true rfl) dX6_loadAlone_15 (fun q2 => ?_)
  exact k_iret hX dX6_loadAlone_18
set_option maxRecDepth 100000 in
theorem m_X6_loadAlone {l : Launch} {G : GL} {ad : Nat → Nat} {MM : Mem} (hAd : AdOK G ad) {p1 : Nat} {p2 : Int32} (hp1 : isWb p1 = true) {M : Mem} {r : Rv} (h : f_X6_loadAlone p1 p2 M = some r) : Ct PostI l G ad (EC G ad MM) yX6_loadAlone cX6_loadAlone 3 (some .int) 3 83 [.ref (ad 0), .ref (ad p1), .int p2] M r := ct_of' hAd (by decide +kernel) (List.forall_mem_cons.mpr ⟨rfl, (List.forall_mem_cons.mpr ⟨rfl, (List.forall_mem_cons.mpr ⟨rfl, (fun _ h => absurd h List.not_mem_nil)⟩)⟩)⟩) (Nat.le_of_ble_eq_true rfl) (L := [some (.ref (ad 0)), some (.ref (ad p1)), some (.int p2)]) rfl (fun _ hX => w_X6_loadAlone hX hp1) h
set_option maxHeartbeats 4000000 in
set_option maxRecDepth 100000 in
theorem w_X6_rewriteParts_3 {l : Launch} {G : GL} {ad : Nat → Nat} {MM : Mem} {X : CT} (hX : Cx l { frames := 5, cells := 0, slots := 0, locals := 129 } cX6_rewriteParts RX6 6 (some .boolean) G ad X) : ∀ (n : Nat), ∀ (x1 : Nat) (x2 : Nat) (x3 : Int32) (x4 : Int32) (hx1 : isWb x1 = true) (hx2 : isWb x2 = true) (M : Mem) {L : List (Option Value)}, lsub [some (.ref (ad 0)), some (.ref (ad x1)), some (.ref (ad x2)), some (.int x3), some (.int x4), none] L → KF l { frames := 5, cells := 0, slots := 0, locals := 129 } 6 G ad (EC G ad MM) (QP PostI G ad (EC G ad MM)) X (f_X6_rewriteParts_3 n x1 x2 x3 x4 M) L 3 [] M := by
  intro n
  induction n with
  | zero =>
    intro x1 x2 x3 x4 hx1 hx2 M L hL
    exact KF.none'
  | succ n ih =>
    intro x1 x2 x3 x4 hx1 hx2 M L hL
    rw [f_X6_rewriteParts_3]
    refine KF.locals (lsub_le hL) ?_
    refine k_iload hX rfl dX6_rewriteParts_3 ?_
    refine k_aload_n hX (i := 1) rfl rfl dX6_rewriteParts_5 ?_
    refine k_get hX (io_W hx1) fl_X6_163 rfl dX6_rewriteParts_6 ?_
    refine k_icmp_ge (tgt := 64) hX dX6_rewriteParts_9 (by decide) (fun b1 => ?_) (fun b1 => ?_)
    · refine k_iconst (v := (nI 1)) hX rfl dX6_rewriteParts_64 ?_
      exact k_zret hX dX6_rewriteParts_65
    refine k_aload_n hX (i := 0) rfl rfl dX6_rewriteParts_12 ?_
    refine k_get hX io_0 fl_X6_21 rfl dX6_rewriteParts_13 ?_
    refine k_aload_n hX (i := 0) rfl rfl dX6_rewriteParts_16 ?_
    refine k_aload_n hX (i := 1) rfl rfl dX6_rewriteParts_17 ?_
    refine k_iload hX rfl dX6_rewriteParts_18 ?_
    refine k_callVI (vs := [.ref (ad x1), .int x4]) hX (fun _ h9 => m_X6_loadAlone hX.2.2.2.2.2.2.1 hx1 h9) io_0 rfl ml_X6_194 ⟨Nat.le_of_ble_eq_true rfl, Nat.le_of_ble_eq_true rfl⟩ rfl rfl (Nat.le_of_ble_eq_true rfl) dX6_rewriteParts_20 (fun q2 => ?_)
    refine k_iload_n hX (i := 3) rfl rfl dX6_rewriteParts_23 ?_
    refine k_callVI (vs := [.int q2.1, .int x3]) hX (fun _ h9 => m_X0_behind hX.2.2.2.2.2.2.1  h9) io_13 rfl ml_X6_216 ⟨Nat.le_of_ble_eq_true rfl, Nat.le_of_ble_eq_true rfl⟩ rfl rfl (Nat.le_of_ble_eq_true rfl) dX6_rewriteParts_24 (fun q3 => ?_)
    refine k_istore (L' := [some (.ref (ad 0)), some (.ref (ad x1)), some (.ref (ad x2)), some (.int x3), some (.int x4), some (.int q3.1)]) hX (by decide) rfl dX6_rewriteParts_27 ?_
    refine k_aload_n hX (i := 0) rfl rfl dX6_rewriteParts_29 ?_
    refine k_get hX io_0 fl_X6_12 rfl dX6_rewriteParts_30 ?_
    refine k_get hX io_1 fl_X6_220 rfl dX6_rewriteParts_33 ?_
    refine k_iload hX rfl dX6_rewriteParts_36 ?_
    refine k_ald hX ia_5 dX6_rewriteParts_38 (fun v4 => ?_)
    refine k_bipush (v := (nI 120)) hX rfl dX6_rewriteParts_39 ?_
    refine k_icmp_le (tgt := 46) hX dX6_rewriteParts_41 (by decide) (fun b5 => ?_) (fun b5 => ?_)
    · refine k_aload_n hX (i := 0) rfl rfl dX6_rewriteParts_46 ?_
      refine k_get hX io_0 fl_X6_28 rfl dX6_rewriteParts_47 ?_
      refine k_iload hX rfl dX6_rewriteParts_50 ?_
      refine k_aload_n hX (i := 2) rfl rfl dX6_rewriteParts_52 ?_
      refine k_iload hX rfl dX6_rewriteParts_53 ?_
      refine k_callVV (vs := [.int q3.1, .ref (ad x2), .int x4]) hX (fun _ h9 => m_X3_save hX.2.2.2.2.2.2.1 hx2 h9) io_17 rfl ml_X6_223 ⟨Nat.le_of_ble_eq_true rfl, Nat.le_of_ble_eq_true rfl⟩ rfl rfl (Nat.le_of_ble_eq_true rfl) dX6_rewriteParts_55 (fun q6 => ?_)
      refine k_iinc (v := x4 + nI 1) (L' := [some (.ref (ad 0)), some (.ref (ad x1)), some (.ref (ad x2)), some (.int x3), some (.int (x4 + nI 1)), some (.int q3.1)]) hX (i := 4) rfl rfl (by decide) rfl dX6_rewriteParts_58 ?_
      refine k_goto (tgt := 3) hX dX6_rewriteParts_61 (by decide) ?_
      exact ih x1 x2 x3 (x4 + nI 1) hx1 hx2 q6.2 ⟨rfl, rfl, rfl, rfl, rfl, trivial⟩
    refine k_iconst (v := (nI 0)) hX rfl dX6_rewriteParts_44 ?_
    exact k_zret hX dX6_rewriteParts_45
set_option maxHeartbeats 4000000 in
set_option maxRecDepth 100000 in
theorem w_X6_rewriteParts {l : Launch} {G : GL} {ad : Nat → Nat} {MM : Mem} {X : CT} (hX : Cx l { frames := 5, cells := 0, slots := 0, locals := 129 } cX6_rewriteParts RX6 6 (some .boolean) G ad X) {p1 : Nat} {p2 : Nat} {p3 : Int32} (hp1 : isWb p1 = true) (hp2 : isWb p2 = true) {M : Mem} : KF l { frames := 5, cells := 0, slots := 0, locals := 129 } 6 G ad (EC G ad MM) (QP PostI G ad (EC G ad MM)) X (f_X6_rewriteParts p1 p2 p3 M) [some (.ref (ad 0)), some (.ref (ad p1)), some (.ref (ad p2)), some (.int p3), none, none] 0 [] M := by
  unfold f_X6_rewriteParts
  refine k_iconst (v := (nI 0)) hX rfl dX6_rewriteParts_0 ?_
  refine k_istore (L' := [some (.ref (ad 0)), some (.ref (ad p1)), some (.ref (ad p2)), some (.int p3), some (.int (nI 0)), none]) hX (by decide) rfl dX6_rewriteParts_1 ?_
  exact w_X6_rewriteParts_3 hX fuelN p1 p2 p3 (nI 0) hp1 hp2 M ⟨rfl, rfl, rfl, rfl, rfl, trivial⟩
set_option maxRecDepth 100000 in
theorem m_X6_rewriteParts {l : Launch} {G : GL} {ad : Nat → Nat} {MM : Mem} (hAd : AdOK G ad) {p1 : Nat} {p2 : Nat} {p3 : Int32} (hp1 : isWb p1 = true) (hp2 : isWb p2 = true) {M : Mem} {r : Rv} (h : f_X6_rewriteParts p1 p2 p3 M = some r) : Ct PostI l G ad (EC G ad MM) yX6_rewriteParts cX6_rewriteParts 6 (some .boolean) 5 129 [.ref (ad 0), .ref (ad p1), .ref (ad p2), .int p3] M r := ct_of' hAd (by decide +kernel) (List.forall_mem_cons.mpr ⟨rfl, (List.forall_mem_cons.mpr ⟨rfl, (List.forall_mem_cons.mpr ⟨rfl, (List.forall_mem_cons.mpr ⟨rfl, (fun _ h => absurd h List.not_mem_nil)⟩)⟩)⟩)⟩) (Nat.le_of_ble_eq_true rfl) (L := [some (.ref (ad 0)), some (.ref (ad p1)), some (.ref (ad p2)), some (.int p3), none, none]) rfl (fun _ hX => w_X6_rewriteParts hX hp1 hp2) h
set_option maxHeartbeats 4000000 in
set_option maxRecDepth 100000 in
theorem w_X6_verdictOfForm_18 {l : Launch} {G : GL} {ad : Nat → Nat} {MM : Mem} {X : CT} (hX : Cx l { frames := 0, cells := 0, slots := 0, locals := 0 } cX6_verdictOfForm RX6 1 (some .int) G ad X) : ∀ (s0 : Int32) (M : Mem) {L : List (Option Value)}, lsub [none] L → KF l { frames := 0, cells := 0, slots := 0, locals := 0 } 1 G ad (EC G ad MM) (QP PostI G ad (EC G ad MM)) X (f_X6_verdictOfForm_18 s0 M) L 18 [.int s0] M := by
  intro s0 M L hL
  unfold f_X6_verdictOfForm_18
  refine KF.locals (lsub_le hL) ?_
  exact k_iret hX dX6_verdictOfForm_18
set_option maxHeartbeats 4000000 in
set_option maxRecDepth 100000 in
theorem w_X6_verdictOfForm {l : Launch} {G : GL} {ad : Nat → Nat} {MM : Mem} {X : CT} (hX : Cx l { frames := 0, cells := 0, slots := 0, locals := 0 } cX6_verdictOfForm RX6 1 (some .int) G ad X) {p1 : Int32} {M : Mem} : KF l { frames := 0, cells := 0, slots := 0, locals := 0 } 1 G ad (EC G ad MM) (QP PostI G ad (EC G ad MM)) X (f_X6_verdictOfForm p1 M) [some (.int p1)] 0 [] M := by
  unfold f_X6_verdictOfForm
  refine k_iload_n hX (i := 0) rfl rfl dX6_verdictOfForm_0 ?_
  refine k_if_ne (tgt := 8) hX dX6_verdictOfForm_1 (by decide) (fun b1 => ?_) (fun b1 => ?_)
  · refine k_iload_n hX (i := 0) rfl rfl dX6_verdictOfForm_8 ?_
    refine k_iconst (v := (nI 1)) hX rfl dX6_verdictOfForm_9 ?_
    refine k_icmp_ne (tgt := 17) hX dX6_verdictOfForm_10 (by decide) (fun b2 => ?_) (fun b2 => ?_)
    · refine k_iconst (v := (nI 2)) hX rfl dX6_verdictOfForm_17 ?_
      exact w_X6_verdictOfForm_18 hX (nI 2) M trivial
    refine k_iconst (v := (nI 1)) hX rfl dX6_verdictOfForm_13 ?_
    refine k_goto (tgt := 18) hX dX6_verdictOfForm_14 (by decide) ?_
    exact w_X6_verdictOfForm_18 hX (nI 1) M trivial
  refine k_iconst (v := (nI 0)) hX rfl dX6_verdictOfForm_4 ?_
  refine k_goto (tgt := 18) hX dX6_verdictOfForm_5 (by decide) ?_
  exact w_X6_verdictOfForm_18 hX (nI 0) M trivial
set_option maxRecDepth 100000 in
theorem m_X6_verdictOfForm {l : Launch} {G : GL} {ad : Nat → Nat} {MM : Mem} (hAd : AdOK G ad) {p1 : Int32} {M : Mem} {r : Rv} (h : f_X6_verdictOfForm p1 M = some r) : Ct PostI l G ad (EC G ad MM) yX6_verdictOfForm cX6_verdictOfForm 1 (some .int) 0 0 [.int p1] M r := ct_of' hAd (by decide +kernel) (List.forall_mem_cons.mpr ⟨rfl, (fun _ h => absurd h List.not_mem_nil)⟩) (Nat.le_of_ble_eq_true rfl) (L := [some (.int p1)]) rfl (fun _ hX => w_X6_verdictOfForm hX) h
set_option maxHeartbeats 4000000 in
set_option maxRecDepth 100000 in
theorem w_X6_worse_8 {l : Launch} {G : GL} {ad : Nat → Nat} {MM : Mem} {X : CT} (hX : Cx l { frames := 0, cells := 0, slots := 0, locals := 0 } cX6_worse RX6 2 (some .int) G ad X) : ∀ (M : Mem) {L : List (Option Value)}, lsub [none, none] L → KF l { frames := 0, cells := 0, slots := 0, locals := 0 } 2 G ad (EC G ad MM) (QP PostI G ad (EC G ad MM)) X (f_X6_worse_8 M) L 8 [] M := by
  intro M L hL
  unfold f_X6_worse_8
  refine KF.locals (lsub_le hL) ?_
  refine k_iconst (v := (nI 0)) hX rfl dX6_worse_8 ?_
  exact k_iret hX dX6_worse_9
set_option maxHeartbeats 4000000 in
set_option maxRecDepth 100000 in
theorem w_X6_worse_25 {l : Launch} {G : GL} {ad : Nat → Nat} {MM : Mem} {X : CT} (hX : Cx l { frames := 0, cells := 0, slots := 0, locals := 0 } cX6_worse RX6 2 (some .int) G ad X) : ∀ (s0 : Int32) (M : Mem) {L : List (Option Value)}, lsub [none, none] L → KF l { frames := 0, cells := 0, slots := 0, locals := 0 } 2 G ad (EC G ad MM) (QP PostI G ad (EC G ad MM)) X (f_X6_worse_25 s0 M) L 25 [.int s0] M := by
  intro s0 M L hL
  unfold f_X6_worse_25
  refine KF.locals (lsub_le hL) ?_
  exact k_iret hX dX6_worse_25
set_option maxHeartbeats 4000000 in
set_option maxRecDepth 100000 in
theorem w_X6_worse_20 {l : Launch} {G : GL} {ad : Nat → Nat} {MM : Mem} {X : CT} (hX : Cx l { frames := 0, cells := 0, slots := 0, locals := 0 } cX6_worse RX6 2 (some .int) G ad X) : ∀ (M : Mem) {L : List (Option Value)}, lsub [none, none] L → KF l { frames := 0, cells := 0, slots := 0, locals := 0 } 2 G ad (EC G ad MM) (QP PostI G ad (EC G ad MM)) X (f_X6_worse_20 M) L 20 [] M := by
  intro M L hL
  unfold f_X6_worse_20
  refine KF.locals (lsub_le hL) ?_
  refine k_iconst (v := (nI 2)) hX rfl dX6_worse_20 ?_
  refine k_goto (tgt := 25) hX dX6_worse_21 (by decide) ?_
  exact w_X6_worse_25 hX (nI 2) M trivial
set_option maxHeartbeats 4000000 in
set_option maxRecDepth 100000 in
theorem w_X6_worse {l : Launch} {G : GL} {ad : Nat → Nat} {MM : Mem} {X : CT} (hX : Cx l { frames := 0, cells := 0, slots := 0, locals := 0 } cX6_worse RX6 2 (some .int) G ad X) {p1 : Int32} {p2 : Int32} {M : Mem} : KF l { frames := 0, cells := 0, slots := 0, locals := 0 } 2 G ad (EC G ad MM) (QP PostI G ad (EC G ad MM)) X (f_X6_worse p1 p2 M) [some (.int p1), some (.int p2)] 0 [] M := by
  unfold f_X6_worse
  refine k_iload_n hX (i := 0) rfl rfl dX6_worse_0 ?_
  refine k_if_eq (tgt := 8) hX dX6_worse_1 (by decide) (fun b1 => ?_) (fun b1 => ?_)
  · exact w_X6_worse_8 hX M trivial
  refine k_iload_n hX (i := 1) rfl rfl dX6_worse_4 ?_
  refine k_if_ne (tgt := 10) hX dX6_worse_5 (by decide) (fun b2 => ?_) (fun b2 => ?_)
  · refine k_iload_n hX (i := 0) rfl rfl dX6_worse_10 ?_
    refine k_iconst (v := (nI 2)) hX rfl dX6_worse_11 ?_
    refine k_icmp_eq (tgt := 20) hX dX6_worse_12 (by decide) (fun b3 => ?_) (fun b3 => ?_)
    · exact w_X6_worse_20 hX M trivial
    refine k_iload_n hX (i := 1) rfl rfl dX6_worse_15 ?_
    refine k_iconst (v := (nI 2)) hX rfl dX6_worse_16 ?_
    refine k_icmp_ne (tgt := 24) hX dX6_worse_17 (by decide) (fun b4 => ?_) (fun b4 => ?_)
    · refine k_iconst (v := (nI 1)) hX rfl dX6_worse_24 ?_
      exact w_X6_worse_25 hX (nI 1) M trivial
    exact w_X6_worse_20 hX M trivial
  exact w_X6_worse_8 hX M trivial
set_option maxRecDepth 100000 in
theorem m_X6_worse {l : Launch} {G : GL} {ad : Nat → Nat} {MM : Mem} (hAd : AdOK G ad) {p1 : Int32} {p2 : Int32} {M : Mem} {r : Rv} (h : f_X6_worse p1 p2 M = some r) : Ct PostI l G ad (EC G ad MM) yX6_worse cX6_worse 2 (some .int) 0 0 [.int p1, .int p2] M r := ct_of' hAd (by decide +kernel) (List.forall_mem_cons.mpr ⟨rfl, (List.forall_mem_cons.mpr ⟨rfl, (fun _ h => absurd h List.not_mem_nil)⟩)⟩) (Nat.le_of_ble_eq_true rfl) (L := [some (.int p1), some (.int p2)]) rfl (fun _ hX => w_X6_worse hX) h
set_option maxHeartbeats 4000000 in
set_option maxRecDepth 100000 in
theorem w_X6_verdictBehind_64 {l : Launch} {G : GL} {ad : Nat → Nat} {MM : Mem} {X : CT} (hX : Cx l { frames := 5, cells := 0, slots := 0, locals := 129 } cX6_verdictBehind RX6 6 (some .int) G ad X) : ∀ (x3 : Int32) (M : Mem) {L : List (Option Value)}, lsub [none, none, none, some (.int x3), none, none] L → KF l { frames := 5, cells := 0, slots := 0, locals := 129 } 6 G ad (EC G ad MM) (QP PostI G ad (EC G ad MM)) X (f_X6_verdictBehind_64 x3 M) L 64 [] M := by
  intro x3 M L hL
  unfold f_X6_verdictBehind_64
  refine KF.locals (lsub_le hL) ?_
  refine k_iload_n hX (i := 3) rfl rfl dX6_verdictBehind_64 ?_
  exact k_iret hX dX6_verdictBehind_65
set_option maxHeartbeats 4000000 in
set_option maxRecDepth 100000 in
theorem w_X6_verdictBehind_18 {l : Launch} {G : GL} {ad : Nat → Nat} {MM : Mem} {X : CT} (hX : Cx l { frames := 5, cells := 0, slots := 0, locals := 129 } cX6_verdictBehind RX6 6 (some .int) G ad X) : ∀ (n : Nat), ∀ (x1 : Nat) (x2 : Int32) (x3 : Int32) (x4 : Int32) (hx1 : isWb x1 = true) (M : Mem) {L : List (Option Value)}, lsub [some (.ref (ad 0)), some (.ref (ad x1)), some (.int x2), some (.int x3), some (.int x4), none] L → KF l { frames := 5, cells := 0, slots := 0, locals := 129 } 6 G ad (EC G ad MM) (QP PostI G ad (EC G ad MM)) X (f_X6_verdictBehind_18 n x1 x2 x3 x4 M) L 18 [] M := by
  intro n
  induction n with
  | zero =>
    intro x1 x2 x3 x4 hx1 M L hL
    exact KF.none'
  | succ n ih =>
    intro x1 x2 x3 x4 hx1 M L hL
    rw [f_X6_verdictBehind_18]
    refine KF.locals (lsub_le hL) ?_
    refine k_iload hX rfl dX6_verdictBehind_18 ?_
    refine k_aload_n hX (i := 1) rfl rfl dX6_verdictBehind_20 ?_
    refine k_get hX (io_W hx1) fl_X6_163 rfl dX6_verdictBehind_21 ?_
    refine k_icmp_ge (tgt := 64) hX dX6_verdictBehind_24 (by decide) (fun b1 => ?_) (fun b1 => ?_)
    · exact w_X6_verdictBehind_64 hX x3 M ⟨rfl, trivial⟩
    refine k_iload_n hX (i := 3) rfl rfl dX6_verdictBehind_27 ?_
    refine k_if_eq (tgt := 64) hX dX6_verdictBehind_28 (by decide) (fun b2 => ?_) (fun b2 => ?_)
    · exact w_X6_verdictBehind_64 hX x3 M ⟨rfl, trivial⟩
    refine k_aload_n hX (i := 0) rfl rfl dX6_verdictBehind_31 ?_
    refine k_get hX io_0 fl_X6_21 rfl dX6_verdictBehind_32 ?_
    refine k_aload_n hX (i := 0) rfl rfl dX6_verdictBehind_35 ?_
    refine k_aload_n hX (i := 1) rfl rfl dX6_verdictBehind_36 ?_
    refine k_iload hX rfl dX6_verdictBehind_37 ?_
    refine k_callVI (vs := [.ref (ad x1), .int x4]) hX (fun _ h9 => m_X6_loadAlone hX.2.2.2.2.2.2.1 hx1 h9) io_0 rfl ml_X6_194 ⟨Nat.le_of_ble_eq_true rfl, Nat.le_of_ble_eq_true rfl⟩ rfl rfl (Nat.le_of_ble_eq_true rfl) dX6_verdictBehind_39 (fun q3 => ?_)
    refine k_iload_n hX (i := 2) rfl rfl dX6_verdictBehind_42 ?_
    refine k_callVI (vs := [.int q3.1, .int x2]) hX (fun _ h9 => m_X0_behind hX.2.2.2.2.2.2.1  h9) io_13 rfl ml_X6_216 ⟨Nat.le_of_ble_eq_true rfl, Nat.le_of_ble_eq_true rfl⟩ rfl rfl (Nat.le_of_ble_eq_true rfl) dX6_verdictBehind_43 (fun q4 => ?_)
    refine k_istore (L' := [some (.ref (ad 0)), some (.ref (ad x1)), some (.int x2), some (.int x3), some (.int x4), some (.int q4.1)]) hX (by decide) rfl dX6_verdictBehind_46 ?_
    refine k_iload_n hX (i := 3) rfl rfl dX6_verdictBehind_48 ?_
    refine k_iload hX rfl dX6_verdictBehind_49 ?_
    refine k_callSI (vs := [.int q4.1]) hX (fun _ h9 => m_X6_verdictOfForm hX.2.2.2.2.2.2.1  h9) ml_X6_252 ⟨Nat.le_of_ble_eq_true rfl, Nat.le_of_ble_eq_true rfl⟩ rfl rfl (Nat.le_of_ble_eq_true rfl) dX6_verdictBehind_51 (fun q5 => ?_)
    refine k_callSI (vs := [.int x3, .int q5.1]) hX (fun _ h9 => m_X6_worse hX.2.2.2.2.2.2.1  h9) ml_X6_255 ⟨Nat.le_of_ble_eq_true rfl, Nat.le_of_ble_eq_true rfl⟩ rfl rfl (Nat.le_of_ble_eq_true rfl) dX6_verdictBehind_54 (fun q6 => ?_)
    refine k_istore_n (L' := [some (.ref (ad 0)), some (.ref (ad x1)), some (.int x2), some (.int q6.1), some (.int x4), some (.int q4.1)]) hX (i := 3) rfl (by decide) rfl dX6_verdictBehind_57 ?_
    refine k_iinc (v := x4 + nI 1) (L' := [some (.ref (ad 0)), some (.ref (ad x1)), some (.int x2), some (.int q6.1), some (.int (x4 + nI 1)), some (.int q4.1)]) hX (i := 4) rfl rfl (by decide) rfl dX6_verdictBehind_58 ?_
    refine k_goto (tgt := 18) hX dX6_verdictBehind_61 (by decide) ?_
    exact ih x1 x2 q6.1 (x4 + nI 1) hx1 q6.2 ⟨rfl, rfl, rfl, rfl, rfl, trivial⟩
set_option maxHeartbeats 4000000 in
set_option maxRecDepth 100000 in
theorem w_X6_verdictBehind {l : Launch} {G : GL} {ad : Nat → Nat} {MM : Mem} {X : CT} (hX : Cx l { frames := 5, cells := 0, slots := 0, locals := 129 } cX6_verdictBehind RX6 6 (some .int) G ad X) {p1 : Nat} {p2 : Int32} (hp1 : isWb p1 = true) {M : Mem} : KF l { frames := 5, cells := 0, slots := 0, locals := 129 } 6 G ad (EC G ad MM) (QP PostI G ad (EC G ad MM)) X (f_X6_verdictBehind p1 p2 M) [some (.ref (ad 0)), some (.ref (ad p1)), some (.int p2), none, none, none] 0 [] M := by
  unfold f_X6_verdictBehind
  refine k_aload_n hX (i := 1) rfl rfl dX6_verdictBehind_0 ?_
  refine k_get hX (io_W hp1) fl_X6_93 rfl dX6_verdictBehind_1 ?_
  refine k_iconst (v := (nI 2)) hX rfl dX6_verdictBehind_4 ?_
  refine k_icmp_eq (tgt := 13) hX dX6_verdictBehind_5 (by decide) (fun b1 => ?_) (fun b1 => ?_)
  · refine k_iconst (v := (nI 1)) hX rfl dX6_verdictBehind_13 ?_
    refine k_istore_n (L' := [some (.ref (ad 0)), some (.ref (ad p1)), some (.int p2), some (.int (nI 1)), none, none]) hX (i := 3) rfl (by decide) rfl dX6_verdictBehind_14 ?_
    refine k_iconst (v := (nI 0)) hX rfl dX6_verdictBehind_15 ?_
    refine k_istore (L' := [some (.ref (ad 0)), some (.ref (ad p1)), some (.int p2), some (.int (nI 1)), some (.int (nI 0)), none]) hX (by decide) rfl dX6_verdictBehind_16 ?_
    exact w_X6_verdictBehind_18 hX fuelN p1 p2 (nI 1) (nI 0) hp1 M ⟨rfl, rfl, rfl, rfl, rfl, trivial⟩
  refine k_aload_n hX (i := 1) rfl rfl dX6_verdictBehind_8 ?_
  refine k_get hX (io_W hp1) fl_X6_93 rfl dX6_verdictBehind_9 ?_
  exact k_iret hX dX6_verdictBehind_12
set_option maxRecDepth 100000 in
theorem m_X6_verdictBehind {l : Launch} {G : GL} {ad : Nat → Nat} {MM : Mem} (hAd : AdOK G ad) {p1 : Nat} {p2 : Int32} (hp1 : isWb p1 = true) {M : Mem} {r : Rv} (h : f_X6_verdictBehind p1 p2 M = some r) : Ct PostI l G ad (EC G ad MM) yX6_verdictBehind cX6_verdictBehind 6 (some .int) 5 129 [.ref (ad 0), .ref (ad p1), .int p2] M r := ct_of' hAd (by decide +kernel) (List.forall_mem_cons.mpr ⟨rfl, (List.forall_mem_cons.mpr ⟨rfl, (List.forall_mem_cons.mpr ⟨rfl, (fun _ h => absurd h List.not_mem_nil)⟩)⟩)⟩) (Nat.le_of_ble_eq_true rfl) (L := [some (.ref (ad 0)), some (.ref (ad p1)), some (.int p2), none, none, none]) rfl (fun _ hX => w_X6_verdictBehind hX hp1) h
set_option maxHeartbeats 4000000 in
set_option maxRecDepth 100000 in
theorem w_X6_signsToBlame_33 {l : Launch} {G : GL} {ad : Nat → Nat} {MM : Mem} {X : CT} (hX : Cx l { frames := 6, cells := 0, slots := 0, locals := 154 } cX6_signsToBlame RX6 5 (some .int) G ad X) {k5 : Nat → Int32 → Int32 → Int32 → Mem → Option Rv} (hk5 : ∀ (x1 : Nat) (x2 : Int32) (x3 : Int32) (x4 : Int32) (hx1 : isWb x1 = true) (M : Mem) {L : List (Option Value)}, lsub [some (.ref (ad 0)), some (.ref (ad x1)), some (.int x2), some (.int x3), some (.int x4)] L → KF l { frames := 6, cells := 0, slots := 0, locals := 154 } 5 G ad (EC G ad MM) (QP PostI G ad (EC G ad MM)) X (k5 x1 x2 x3 x4 M) L 5 [] M) : ∀ (x1 : Nat) (x2 : Int32) (x3 : Int32) (x4 : Int32) (hx1 : isWb x1 = true) (M : Mem) {L : List (Option Value)}, lsub [some (.ref (ad 0)), some (.ref (ad x1)), some (.int x2), some (.int x3), some (.int x4)] L → KF l { frames := 6, cells := 0, slots := 0, locals := 154 } 5 G ad (EC G ad MM) (QP PostI G ad (EC G ad MM)) X (f_X6_signsToBlame_33 k5 x1 x2 x3 x4 M) L 33 [] M := by
  intro x1 x2 x3 x4 hx1 M L hL
  unfold f_X6_signsToBlame_33
  refine KF.locals (lsub_le hL) ?_
  refine k_iinc (v := x4 + nI 1) (L' := [some (.ref (ad 0)), some (.ref (ad x1)), some (.int x2), some (.int x3), some (.int (x4 + nI 1))]) hX (i := 4) rfl rfl (by decide) rfl dX6_signsToBlame_33 ?_
  refine k_goto (tgt := 5) hX dX6_signsToBlame_36 (by decide) ?_
  exact hk5 x1 x2 x3 (x4 + nI 1) hx1 M ⟨rfl, rfl, rfl, rfl, rfl, trivial⟩
set_option maxHeartbeats 4000000 in
set_option maxRecDepth 100000 in
theorem w_X6_signsToBlame_5 {l : Launch} {G : GL} {ad : Nat → Nat} {MM : Mem} {X : CT} (hX : Cx l { frames := 6, cells := 0, slots := 0, locals := 154 } cX6_signsToBlame RX6 5 (some .int) G ad X) : ∀ (n : Nat), ∀ (x1 : Nat) (x2 : Int32) (x3 : Int32) (x4 : Int32) (hx1 : isWb x1 = true) (M : Mem) {L : List (Option Value)}, lsub [some (.ref (ad 0)), some (.ref (ad x1)), some (.int x2), some (.int x3), some (.int x4)] L → KF l { frames := 6, cells := 0, slots := 0, locals := 154 } 5 G ad (EC G ad MM) (QP PostI G ad (EC G ad MM)) X (f_X6_signsToBlame_5 n x1 x2 x3 x4 M) L 5 [] M := by
  intro n
  induction n with
  | zero =>
    intro x1 x2 x3 x4 hx1 M L hL
    exact KF.none'
  | succ n ih =>
    intro x1 x2 x3 x4 hx1 M L hL
    rw [f_X6_signsToBlame_5]
    refine KF.locals (lsub_le hL) ?_
    refine k_iload hX rfl dX6_signsToBlame_5 ?_
    refine k_bipush (v := (nI 6)) hX rfl dX6_signsToBlame_7 ?_
    refine k_icmp_ge (tgt := 39) hX dX6_signsToBlame_9 (by decide) (fun b1 => ?_) (fun b1 => ?_)
    · refine k_iload_n hX (i := 3) rfl rfl dX6_signsToBlame_39 ?_
      exact k_iret hX dX6_signsToBlame_40
    refine k_aload_n hX (i := 0) rfl rfl dX6_signsToBlame_12 ?_
    refine k_aload_n hX (i := 1) rfl rfl dX6_signsToBlame_13 ?_
    refine k_iload_n hX (i := 2) rfl rfl dX6_signsToBlame_14 ?_
    refine k_iconst (v := (nI 1)) hX rfl dX6_signsToBlame_15 ?_
    refine k_iload hX rfl dX6_signsToBlame_16 ?_
    refine k_ishl hX dX6_signsToBlame_18 ?_
    refine k_ixor hX dX6_signsToBlame_19 ?_
    refine k_callVI (vs := [.ref (ad x1), .int (x2 ^^^ ((nI 1) <<< (x4 &&& nI 31)))]) hX (fun _ h9 => m_X6_verdictBehind hX.2.2.2.2.2.2.1 hx1 h9) io_0 rfl ml_X6_201 ⟨Nat.le_of_ble_eq_true rfl, Nat.le_of_ble_eq_true rfl⟩ rfl rfl (Nat.le_of_ble_eq_true rfl) dX6_signsToBlame_20 (fun q2 => ?_)
    refine k_if_eq (tgt := 33) hX dX6_signsToBlame_23 (by decide) (fun b3 => ?_) (fun b3 => ?_)
    · exact w_X6_signsToBlame_33 hX ih x1 x2 x3 x4 hx1 q2.2 ⟨rfl, rfl, rfl, rfl, rfl, trivial⟩
    refine k_iload_n hX (i := 3) rfl rfl dX6_signsToBlame_26 ?_
    refine k_iconst (v := (nI 1)) hX rfl dX6_signsToBlame_27 ?_
    refine k_iload hX rfl dX6_signsToBlame_28 ?_
    refine k_ishl hX dX6_signsToBlame_30 ?_
    refine k_ior hX dX6_signsToBlame_31 ?_
    refine k_istore_n (L' := [some (.ref (ad 0)), some (.ref (ad x1)), some (.int x2), some (.int (x3 ||| ((nI 1) <<< (x4 &&& nI 31)))), some (.int x4)]) hX (i := 3) rfl (by decide) rfl dX6_signsToBlame_32 ?_
    exact w_X6_signsToBlame_33 hX ih x1 x2 (x3 ||| ((nI 1) <<< (x4 &&& nI 31))) x4 hx1 q2.2 ⟨rfl, rfl, rfl, rfl, rfl, trivial⟩
set_option maxHeartbeats 4000000 in
set_option maxRecDepth 100000 in
theorem w_X6_signsToBlame {l : Launch} {G : GL} {ad : Nat → Nat} {MM : Mem} {X : CT} (hX : Cx l { frames := 6, cells := 0, slots := 0, locals := 154 } cX6_signsToBlame RX6 5 (some .int) G ad X) {p1 : Nat} {p2 : Int32} (hp1 : isWb p1 = true) {M : Mem} : KF l { frames := 6, cells := 0, slots := 0, locals := 154 } 5 G ad (EC G ad MM) (QP PostI G ad (EC G ad MM)) X (f_X6_signsToBlame p1 p2 M) [some (.ref (ad 0)), some (.ref (ad p1)), some (.int p2), none, none] 0 [] M := by
  unfold f_X6_signsToBlame
  refine k_iconst (v := (nI 0)) hX rfl dX6_signsToBlame_0 ?_
  refine k_istore_n (L' := [some (.ref (ad 0)), some (.ref (ad p1)), some (.int p2), some (.int (nI 0)), none]) hX (i := 3) rfl (by decide) rfl dX6_signsToBlame_1 ?_
  refine k_iconst (v := (nI 0)) hX rfl dX6_signsToBlame_2 ?_
  refine k_istore (L' := [some (.ref (ad 0)), some (.ref (ad p1)), some (.int p2), some (.int (nI 0)), some (.int (nI 0))]) hX (by decide) rfl dX6_signsToBlame_3 ?_
  exact w_X6_signsToBlame_5 hX fuelN p1 p2 (nI 0) (nI 0) hp1 M ⟨rfl, rfl, rfl, rfl, rfl, trivial⟩
set_option maxRecDepth 100000 in
theorem m_X6_signsToBlame {l : Launch} {G : GL} {ad : Nat → Nat} {MM : Mem} (hAd : AdOK G ad) {p1 : Nat} {p2 : Int32} (hp1 : isWb p1 = true) {M : Mem} {r : Rv} (h : f_X6_signsToBlame p1 p2 M = some r) : Ct PostI l G ad (EC G ad MM) yX6_signsToBlame cX6_signsToBlame 5 (some .int) 6 154 [.ref (ad 0), .ref (ad p1), .int p2] M r := ct_of' hAd (by decide +kernel) (List.forall_mem_cons.mpr ⟨rfl, (List.forall_mem_cons.mpr ⟨rfl, (List.forall_mem_cons.mpr ⟨rfl, (fun _ h => absurd h List.not_mem_nil)⟩)⟩)⟩) (Nat.le_of_ble_eq_true rfl) (L := [some (.ref (ad 0)), some (.ref (ad p1)), some (.int p2), none, none]) rfl (fun _ hX => w_X6_signsToBlame hX hp1) h
set_option maxHeartbeats 4000000 in
set_option maxRecDepth 100000 in
theorem w_X6_event_10 {l : Launch} {G : GL} {ad : Nat → Nat} {MM : Mem} {X : CT} (hX : Cx l { frames := 7, cells := 0, slots := 0, locals := 178 } cX6_event RX6 7 (some .int) G ad X) : ∀ (M : Mem) {L : List (Option Value)}, lsub [none, none, none, none, none, none, none] L → KF l { frames := 7, cells := 0, slots := 0, locals := 178 } 7 G ad (EC G ad MM) (QP PostI G ad (EC G ad MM)) X (f_X6_event_10 M) L 10 [] M := by
  intro M L hL
  unfold f_X6_event_10
  refine KF.locals (lsub_le hL) ?_
  refine k_bipush (v := (-2)) hX rfl dX6_event_10 ?_
  exact k_iret hX dX6_event_12
set_option maxHeartbeats 4000000 in
set_option maxRecDepth 100000 in
theorem w_X6_event_166 {l : Launch} {G : GL} {ad : Nat → Nat} {MM : Mem} {X : CT} (hX : Cx l { frames := 7, cells := 0, slots := 0, locals := 178 } cX6_event RX6 7 (some .int) G ad X) {k59 : Int32 → Nat → Int32 → Int32 → Mem → Option Rv} (hk59 : ∀ (x1 : Int32) (x2 : Nat) (x3 : Int32) (x4 : Int32) (hx2 : isSb x2 = true) (M : Mem) {L : List (Option Value)}, lsub [some (.ref (ad 0)), some (.int x1), some (.ref (ad x2)), some (.int x3), some (.int x4), none, none] L → KF l { frames := 7, cells := 0, slots := 0, locals := 178 } 7 G ad (EC G ad MM) (QP PostI G ad (EC G ad MM)) X (k59 x1 x2 x3 x4 M) L 59 [] M) : ∀ (x1 : Int32) (x2 : Nat) (x3 : Int32) (x4 : Int32) (hx2 : isSb x2 = true) (M : Mem) {L : List (Option Value)}, lsub [some (.ref (ad 0)), some (.int x1), some (.ref (ad x2)), some (.int x3), some (.int x4), none, none] L → KF l { frames := 7, cells := 0, slots := 0, locals := 178 } 7 G ad (EC G ad MM) (QP PostI G ad (EC G ad MM)) X (f_X6_event_166 k59 x1 x2 x3 x4 M) L 166 [] M := by
  intro x1 x2 x3 x4 hx2 M L hL
  unfold f_X6_event_166
  refine KF.locals (lsub_le hL) ?_
  refine k_iinc (v := x4 + nI 1) (L' := [some (.ref (ad 0)), some (.int x1), some (.ref (ad x2)), some (.int x3), some (.int (x4 + nI 1)), none, none]) hX (i := 4) rfl rfl (by decide) rfl dX6_event_166 ?_
  refine k_goto (tgt := 59) hX dX6_event_169 (by decide) ?_
  exact hk59 x1 x2 x3 (x4 + nI 1) hx2 M ⟨rfl, rfl, rfl, rfl, rfl, trivial⟩
set_option maxHeartbeats 4000000 in
set_option maxRecDepth 100000 in
theorem w_X6_event_160 {l : Launch} {G : GL} {ad : Nat → Nat} {MM : Mem} {X : CT} (hX : Cx l { frames := 7, cells := 0, slots := 0, locals := 178 } cX6_event RX6 7 (some .int) G ad X) {k59 : Int32 → Nat → Int32 → Int32 → Mem → Option Rv} (hk59 : ∀ (x1 : Int32) (x2 : Nat) (x3 : Int32) (x4 : Int32) (hx2 : isSb x2 = true) (M : Mem) {L : List (Option Value)}, lsub [some (.ref (ad 0)), some (.int x1), some (.ref (ad x2)), some (.int x3), some (.int x4), none, none] L → KF l { frames := 7, cells := 0, slots := 0, locals := 178 } 7 G ad (EC G ad MM) (QP PostI G ad (EC G ad MM)) X (k59 x1 x2 x3 x4 M) L 59 [] M) : ∀ (x1 : Int32) (x2 : Nat) (x3 : Int32) (x4 : Int32) (s0 : Int32) (s1 : Nat) (hx2 : isSb x2 = true) (hs1 : isWb s1 = true) (M : Mem) {L : List (Option Value)}, lsub [some (.ref (ad 0)), some (.int x1), some (.ref (ad x2)), some (.int x3), some (.int x4), none, none] L → KF l { frames := 7, cells := 0, slots := 0, locals := 178 } 7 G ad (EC G ad MM) (QP PostI G ad (EC G ad MM)) X (f_X6_event_160 k59 x1 x2 x3 x4 s0 s1 M) L 160 [.int s0, .ref (ad s1)] M := by
  intro x1 x2 x3 x4 s0 s1 hx2 hs1 M L hL
  unfold f_X6_event_160
  refine KF.locals (lsub_le hL) ?_
  refine k_puti hX locC (io_W hs1) fp_X6_104 (Nat.le_of_ble_eq_true rfl) rfl dX6_event_160 (fun M1 => ?_)
  refine k_iinc (v := x3 + nI 1) (L' := [some (.ref (ad 0)), some (.int x1), some (.ref (ad x2)), some (.int (x3 + nI 1)), some (.int x4), none, none]) hX (i := 3) rfl rfl (by decide) rfl dX6_event_163 ?_
  exact w_X6_event_166 hX hk59 x1 x2 (x3 + nI 1) x4 hx2 M1 ⟨rfl, rfl, rfl, rfl, rfl, trivial⟩
set_option maxHeartbeats 4000000 in
set_option maxRecDepth 100000 in
theorem w_X6_event_59 {l : Launch} {G : GL} {ad : Nat → Nat} {MM : Mem} {X : CT} (hX : Cx l { frames := 7, cells := 0, slots := 0, locals := 178 } cX6_event RX6 7 (some .int) G ad X) : ∀ (n : Nat), ∀ (x1 : Int32) (x2 : Nat) (x3 : Int32) (x4 : Int32) (hx2 : isSb x2 = true) (M : Mem) {L : List (Option Value)}, lsub [some (.ref (ad 0)), some (.int x1), some (.ref (ad x2)), some (.int x3), some (.int x4), none, none] L → KF l { frames := 7, cells := 0, slots := 0, locals := 178 } 7 G ad (EC G ad MM) (QP PostI G ad (EC G ad MM)) X (f_X6_event_59 n x1 x2 x3 x4 M) L 59 [] M := by
  intro n
  induction n with
  | zero =>
    intro x1 x2 x3 x4 hx2 M L hL
    exact KF.none'
  | succ n ih =>
    intro x1 x2 x3 x4 hx2 M L hL
    rw [f_X6_event_59]
    refine KF.locals (lsub_le hL) ?_
    refine k_iload hX rfl dX6_event_59 ?_
    refine k_aload_n hX (i := 0) rfl rfl dX6_event_61 ?_
    refine k_gets hX io_0 fl_X6_59 rfl dX6_event_62 (fun c1 hc1 => ?_)
    refine k_get hX (io_S hc1) fl_X6_77 rfl dX6_event_65 ?_
    refine k_icmp_ge (tgt := 172) hX dX6_event_68 (by decide) (fun b2 => ?_) (fun b2 => ?_)
    · refine k_aload_n hX (i := 2) rfl rfl dX6_event_172 ?_
      refine k_get hX (io_S hx2) fl_X6_107 rfl dX6_event_173 ?_
      refine k_aload_n hX (i := 2) rfl rfl dX6_event_176 ?_
      refine k_get hX (io_S hx2) fl_X6_69 rfl dX6_event_177 ?_
      refine k_iload_n hX (i := 1) rfl rfl dX6_event_180 ?_
      refine k_ast hX locC (ia_S1 hx2) dX6_event_181 (fun M3 => ?_)
      refine k_aload_n hX (i := 2) rfl rfl dX6_event_182 ?_
      refine k_dup hX rfl dX6_event_183 ?_
      refine k_get hX (io_S hx2) fl_X6_69 rfl dX6_event_184 ?_
      refine k_iconst (v := (nI 1)) hX rfl dX6_event_187 ?_
      refine k_iadd hX dX6_event_188 ?_
      refine k_puti hX locC (io_S hx2) fp_X6_69 (Nat.le_of_ble_eq_true rfl) rfl dX6_event_189 (fun M4 => ?_)
      refine k_aload_n hX (i := 0) rfl rfl dX6_event_192 ?_
      refine k_callVV (vs := []) hX (fun _ h9 => m_X6_recordAndGoOn hX.2.2.2.2.2.2.1  h9) io_0 rfl ml_X6_110 ⟨Nat.le_of_ble_eq_true rfl, Nat.le_of_ble_eq_true rfl⟩ rfl rfl (Nat.le_of_ble_eq_true rfl) dX6_event_193 (fun q5 => ?_)
      refine k_iload_n hX (i := 3) rfl rfl dX6_event_196 ?_
      exact k_iret hX dX6_event_197
    refine k_aload_n hX (i := 0) rfl rfl dX6_event_71 ?_
    refine k_gets hX io_0 fl_X6_59 rfl dX6_event_72 (fun c6 hc6 => ?_)
    refine k_get hX (io_S hc6) fl_X6_80 rfl dX6_event_75 ?_
    refine k_iload hX rfl dX6_event_78 ?_
    refine k_aldW hX (iq_S2 hc6) dX6_event_80 (fun c7 gc7 => ?_)
    have hc7 := mlW_is hc6 gc7
    refine k_astore (L' := [some (.ref (ad 0)), some (.int x1), some (.ref (ad x2)), some (.int x3), some (.int x4), some (.ref (ad c7)), none]) hX (by decide) rfl dX6_event_81 ?_
    refine k_aload_n hX (i := 2) rfl rfl dX6_event_83 ?_
    refine k_get hX (io_S hx2) fl_X6_80 rfl dX6_event_84 ?_
    refine k_iload hX rfl dX6_event_87 ?_
    refine k_aldW hX (iq_S2 hx2) dX6_event_89 (fun c8 gc8 => ?_)
    have hc8 := mlW_is hx2 gc8
    refine k_astore (L' := [some (.ref (ad 0)), some (.int x1), some (.ref (ad x2)), some (.int x3), some (.int x4), some (.ref (ad c7)), some (.ref (ad c8))]) hX (by decide) rfl dX6_event_90 ?_
    refine k_aload hX rfl dX6_event_92 ?_
    refine k_get hX (io_W hc7) fl_X6_84 rfl dX6_event_94 ?_
    refine k_if_eq (tgt := 166) hX dX6_event_97 (by decide) (fun b9 => ?_) (fun b9 => ?_)
    · exact w_X6_event_166 hX ih x1 x2 x3 x4 hx2 M ⟨rfl, rfl, rfl, rfl, rfl, trivial⟩
    refine k_aload_n hX (i := 0) rfl rfl dX6_event_100 ?_
    refine k_aload hX rfl dX6_event_101 ?_
    refine k_aload hX rfl dX6_event_103 ?_
    refine k_iload_n hX (i := 1) rfl rfl dX6_event_105 ?_
    refine k_callVI (vs := [.ref (ad c7), .ref (ad c8), .int x1]) hX (fun _ h9 => m_X6_rewriteParts hX.2.2.2.2.2.2.1 hc7 hc8 h9) io_0 rfl ml_X6_89 ⟨Nat.le_of_ble_eq_true rfl, Nat.le_of_ble_eq_true rfl⟩ rfl rfl (Nat.le_of_ble_eq_true rfl) dX6_event_106 (fun q10 => ?_)
    refine k_if_ne (tgt := 115) hX dX6_event_109 (by decide) (fun b11 => ?_) (fun b11 => ?_)
    · refine k_aload hX rfl dX6_event_115 ?_
      refine k_get hX (io_W hc7) fl_X6_93 rfl dX6_event_117 ?_
      refine k_iconst (v := (nI 2)) hX rfl dX6_event_120 ?_
      refine k_icmp_ne (tgt := 166) hX dX6_event_121 (by decide) (fun b12 => ?_) (fun b12 => ?_)
      · exact w_X6_event_166 hX ih x1 x2 x3 x4 hx2 q10.2 ⟨rfl, rfl, rfl, rfl, rfl, trivial⟩
      refine k_aload hX rfl dX6_event_124 ?_
      refine k_aload_n hX (i := 0) rfl rfl dX6_event_126 ?_
      refine k_gets hX io_0 fl_X6_59 rfl dX6_event_127 (fun c13 hc13 => ?_)
      refine k_get hX (io_S hc13) fl_X6_69 rfl dX6_event_130 ?_
      refine k_callVI (vs := [.int (q10.2 c13 1)]) hX (fun _ h9 => m_X5_judge hX.2.2.2.2.2.2.1 hc8 h9) (io_W hc8) rfl ml_X6_96 ⟨Nat.le_of_ble_eq_true rfl, Nat.le_of_ble_eq_true rfl⟩ rfl rfl (Nat.le_of_ble_eq_true rfl) dX6_event_133 (fun q14 => ?_)
      refine k_if_eq (tgt := 166) hX dX6_event_136 (by decide) (fun b15 => ?_) (fun b15 => ?_)
      · exact w_X6_event_166 hX ih x1 x2 x3 x4 hx2 q14.2 ⟨rfl, rfl, rfl, rfl, rfl, trivial⟩
      refine k_aload hX rfl dX6_event_139 ?_
      refine k_aload hX rfl dX6_event_141 ?_
      refine k_get hX (io_W hc8) fl_X6_93 rfl dX6_event_143 ?_
      refine k_if_ne (tgt := 159) hX dX6_event_146 (by decide) (fun b16 => ?_) (fun b16 => ?_)
      · refine k_iconst (v := (nI 0)) hX rfl dX6_event_159 ?_
        exact w_X6_event_160 hX ih x1 x2 x3 x4 (nI 0) c8 hx2 hc8 q14.2 ⟨rfl, rfl, rfl, rfl, rfl, trivial⟩
      refine k_aload_n hX (i := 0) rfl rfl dX6_event_149 ?_
      refine k_aload hX rfl dX6_event_150 ?_
      refine k_iload_n hX (i := 1) rfl rfl dX6_event_152 ?_
      refine k_callVI (vs := [.ref (ad c7), .int x1]) hX (fun _ h9 => m_X6_signsToBlame hX.2.2.2.2.2.2.1 hc7 h9) io_0 rfl ml_X6_100 ⟨Nat.le_of_ble_eq_true rfl, Nat.le_of_ble_eq_true rfl⟩ rfl rfl (Nat.le_of_ble_eq_true rfl) dX6_event_153 (fun q17 => ?_)
      refine k_goto (tgt := 160) hX dX6_event_156 (by decide) ?_
      exact w_X6_event_160 hX ih x1 x2 x3 x4 q17.1 c8 hx2 hc8 q17.2 ⟨rfl, rfl, rfl, rfl, rfl, trivial⟩
    refine k_bipush (v := (-3)) hX rfl dX6_event_112 ?_
    exact k_iret hX dX6_event_114
set_option maxHeartbeats 4000000 in
set_option maxRecDepth 100000 in
theorem w_X6_event {l : Launch} {G : GL} {ad : Nat → Nat} {MM : Mem} {X : CT} (hX : Cx l { frames := 7, cells := 0, slots := 0, locals := 178 } cX6_event RX6 7 (some .int) G ad X) {p1 : Int32} {M : Mem} : KF l { frames := 7, cells := 0, slots := 0, locals := 178 } 7 G ad (EC G ad MM) (QP PostI G ad (EC G ad MM)) X (f_X6_event p1 M) [some (.ref (ad 0)), some (.int p1), none, none, none, none, none] 0 [] M := by
  unfold f_X6_event
  refine k_iload_n hX (i := 1) rfl rfl dX6_event_0 ?_
  refine k_if_lt (tgt := 10) hX dX6_event_1 (by decide) (fun b1 => ?_) (fun b1 => ?_)
  · exact w_X6_event_10 hX M trivial
  refine k_iload_n hX (i := 1) rfl rfl dX6_event_4 ?_
  refine k_bipush (v := (nI 64)) hX rfl dX6_event_5 ?_
  refine k_icmp_lt (tgt := 13) hX dX6_event_7 (by decide) (fun b2 => ?_) (fun b2 => ?_)
  · refine k_aload_n hX (i := 0) rfl rfl dX6_event_13 ?_
    refine k_gets hX io_0 fl_X6_59 rfl dX6_event_14 (fun c3 hc3 => ?_)
    refine k_get hX (io_S hc3) fl_X6_65 rfl dX6_event_17 ?_
    refine k_if_eq (tgt := 26) hX dX6_event_20 (by decide) (fun b4 => ?_) (fun b4 => ?_)
    · refine k_aload_n hX (i := 0) rfl rfl dX6_event_26 ?_
      refine k_gets hX io_0 fl_X6_59 rfl dX6_event_27 (fun c5 hc5 => ?_)
      refine k_get hX (io_S hc5) fl_X6_69 rfl dX6_event_30 ?_
      refine k_bipush (v := (nI 40)) hX rfl dX6_event_33 ?_
      refine k_icmp_lt (tgt := 41) hX dX6_event_35 (by decide) (fun b6 => ?_) (fun b6 => ?_)
      · refine k_aload_n hX (i := 0) rfl rfl dX6_event_41 ?_
        refine k_gets hX io_0 fl_X6_62 rfl dX6_event_42 (fun c7 hc7 => ?_)
        refine k_astore_n (L' := [some (.ref (ad 0)), some (.int p1), some (.ref (ad c7)), none, none, none, none]) hX (i := 2) rfl (by decide) rfl dX6_event_45 ?_
        refine k_aload_n hX (i := 2) rfl rfl dX6_event_46 ?_
        refine k_aload_n hX (i := 0) rfl rfl dX6_event_47 ?_
        refine k_gets hX io_0 fl_X6_59 rfl dX6_event_48 (fun c8 hc8 => ?_)
        refine k_callVV (vs := [.ref (ad c8)]) hX (fun _ h9 => m_X4_copyFrom hX.2.2.2.2.2.2.1 hc7 hc8 h9) (io_S hc7) rfl ml_X6_73 ⟨Nat.le_of_ble_eq_true rfl, Nat.le_of_ble_eq_true rfl⟩ rfl rfl (Nat.le_of_ble_eq_true rfl) dX6_event_51 (fun q9 => ?_)
        refine k_iconst (v := (nI 0)) hX rfl dX6_event_54 ?_
        refine k_istore_n (L' := [some (.ref (ad 0)), some (.int p1), some (.ref (ad c7)), some (.int (nI 0)), none, none, none]) hX (i := 3) rfl (by decide) rfl dX6_event_55 ?_
        refine k_iconst (v := (nI 0)) hX rfl dX6_event_56 ?_
        refine k_istore (L' := [some (.ref (ad 0)), some (.int p1), some (.ref (ad c7)), some (.int (nI 0)), some (.int (nI 0)), none, none]) hX (by decide) rfl dX6_event_57 ?_
        exact w_X6_event_59 hX fuelN p1 c7 (nI 0) (nI 0) hc7 q9.2 ⟨rfl, rfl, rfl, rfl, rfl, trivial⟩
      refine k_bipush (v := (-3)) hX rfl dX6_event_38 ?_
      exact k_iret hX dX6_event_40
    refine k_bipush (v := (-4)) hX rfl dX6_event_23 ?_
    exact k_iret hX dX6_event_25
  exact w_X6_event_10 hX M trivial
set_option maxRecDepth 100000 in
theorem m_X6_event {l : Launch} {G : GL} {ad : Nat → Nat} {MM : Mem} (hAd : AdOK G ad) {p1 : Int32} {M : Mem} {r : Rv} (h : f_X6_event p1 M = some r) : Ct PostI l G ad (EC G ad MM) yX6_event cX6_event 7 (some .int) 7 178 [.ref (ad 0), .int p1] M r := ct_of' hAd (by decide +kernel) (List.forall_mem_cons.mpr ⟨rfl, (List.forall_mem_cons.mpr ⟨rfl, (fun _ h => absurd h List.not_mem_nil)⟩)⟩) (Nat.le_of_ble_eq_true rfl) (L := [some (.ref (ad 0)), some (.int p1), none, none, none, none, none]) rfl (fun _ hX => w_X6_event hX) h
set_option maxHeartbeats 4000000 in
set_option maxRecDepth 100000 in
theorem w_X6_endParts_38 {l : Launch} {G : GL} {ad : Nat → Nat} {MM : Mem} {X : CT} (hX : Cx l { frames := 4, cells := 0, slots := 0, locals := 105 } cX6_endParts RX6 4 none G ad X) {k2 : Nat → Int32 → Mem → Option Rv} (hk2 : ∀ (x1 : Nat) (x2 : Int32) (hx1 : isWb x1 = true) (M : Mem) {L : List (Option Value)}, lsub [some (.ref (ad 0)), some (.ref (ad x1)), some (.int x2), none] L → KF l { frames := 4, cells := 0, slots := 0, locals := 105 } 4 G ad (EC G ad MM) (QP PostV G ad (EC G ad MM)) X (k2 x1 x2 M) L 2 [] M) : ∀ (x1 : Nat) (x2 : Int32) (s0 : Int32) (hx1 : isWb x1 = true) (M : Mem) {L : List (Option Value)}, lsub [some (.ref (ad 0)), some (.ref (ad x1)), some (.int x2), none] L → KF l { frames := 4, cells := 0, slots := 0, locals := 105 } 4 G ad (EC G ad MM) (QP PostV G ad (EC G ad MM)) X (f_X6_endParts_38 k2 x1 x2 s0 M) L 38 [.int s0, .ref (ad 17)] M := by
  intro x1 x2 s0 hx1 M L hL
  unfold f_X6_endParts_38
  refine KF.locals (lsub_le hL) ?_
  refine k_aload_n hX (i := 1) rfl rfl dX6_endParts_38 ?_
  refine k_iload_n hX (i := 2) rfl rfl dX6_endParts_39 ?_
  refine k_callVV (vs := [.int s0, .ref (ad x1), .int x2]) hX (fun _ h9 => m_X3_save hX.2.2.2.2.2.2.1 hx1 h9) io_17 rfl ml_X6_223 ⟨Nat.le_of_ble_eq_true rfl, Nat.le_of_ble_eq_true rfl⟩ rfl rfl (Nat.le_of_ble_eq_true rfl) dX6_endParts_40 (fun q1 => ?_)
  refine k_iinc (v := x2 + nI 1) (L' := [some (.ref (ad 0)), some (.ref (ad x1)), some (.int (x2 + nI 1)), none]) hX (i := 2) rfl rfl (by decide) rfl dX6_endParts_43 ?_
  refine k_goto (tgt := 2) hX dX6_endParts_46 (by decide) ?_
  exact hk2 x1 (x2 + nI 1) hx1 q1.2 ⟨rfl, rfl, rfl, trivial⟩
set_option maxHeartbeats 4000000 in
set_option maxRecDepth 100000 in
theorem w_X6_endParts_2 {l : Launch} {G : GL} {ad : Nat → Nat} {MM : Mem} {X : CT} (hX : Cx l { frames := 4, cells := 0, slots := 0, locals := 105 } cX6_endParts RX6 4 none G ad X) : ∀ (n : Nat), ∀ (x1 : Nat) (x2 : Int32) (hx1 : isWb x1 = true) (M : Mem) {L : List (Option Value)}, lsub [some (.ref (ad 0)), some (.ref (ad x1)), some (.int x2), none] L → KF l { frames := 4, cells := 0, slots := 0, locals := 105 } 4 G ad (EC G ad MM) (QP PostV G ad (EC G ad MM)) X (f_X6_endParts_2 n x1 x2 M) L 2 [] M := by
  intro n
  induction n with
  | zero =>
    intro x1 x2 hx1 M L hL
    exact KF.none'
  | succ n ih =>
    intro x1 x2 hx1 M L hL
    rw [f_X6_endParts_2]
    refine KF.locals (lsub_le hL) ?_
    refine k_iload_n hX (i := 2) rfl rfl dX6_endParts_2 ?_
    refine k_aload_n hX (i := 1) rfl rfl dX6_endParts_3 ?_
    refine k_get hX (io_W hx1) fl_X6_163 rfl dX6_endParts_4 ?_
    refine k_icmp_ge (tgt := 49) hX dX6_endParts_7 (by decide) (fun b1 => ?_) (fun b1 => ?_)
    · exact k_vret hX dX6_endParts_49
    refine k_aload_n hX (i := 0) rfl rfl dX6_endParts_10 ?_
    refine k_get hX io_0 fl_X6_12 rfl dX6_endParts_11 ?_
    refine k_get hX io_1 fl_X6_197 rfl dX6_endParts_14 ?_
    refine k_aload_n hX (i := 0) rfl rfl dX6_endParts_17 ?_
    refine k_aload_n hX (i := 1) rfl rfl dX6_endParts_18 ?_
    refine k_iload_n hX (i := 2) rfl rfl dX6_endParts_19 ?_
    refine k_callVI (vs := [.ref (ad x1), .int x2]) hX (fun _ h9 => m_X6_loadAlone hX.2.2.2.2.2.2.1 hx1 h9) io_0 rfl ml_X6_194 ⟨Nat.le_of_ble_eq_true rfl, Nat.le_of_ble_eq_true rfl⟩ rfl rfl (Nat.le_of_ble_eq_true rfl) dX6_endParts_20 (fun q2 => ?_)
    refine k_zald hX ia_7 dX6_endParts_23 (fun v3 => ?_)
    refine k_istore_n (L' := [some (.ref (ad 0)), some (.ref (ad x1)), some (.int x2), some (.int v3)]) hX (i := 3) rfl (by decide) rfl dX6_endParts_24 ?_
    refine k_aload_n hX (i := 0) rfl rfl dX6_endParts_25 ?_
    refine k_get hX io_0 fl_X6_28 rfl dX6_endParts_26 ?_
    refine k_iload_n hX (i := 3) rfl rfl dX6_endParts_29 ?_
    refine k_if_eq (tgt := 37) hX dX6_endParts_30 (by decide) (fun b4 => ?_) (fun b4 => ?_)
    · refine k_iconst (v := (nI 0)) hX rfl dX6_endParts_37 ?_
      exact w_X6_endParts_38 hX ih x1 x2 (nI 0) hx1 q2.2 ⟨rfl, rfl, rfl, trivial⟩
    refine k_iconst (v := (nI 1)) hX rfl dX6_endParts_33 ?_
    refine k_goto (tgt := 38) hX dX6_endParts_34 (by decide) ?_
    exact w_X6_endParts_38 hX ih x1 x2 (nI 1) hx1 q2.2 ⟨rfl, rfl, rfl, trivial⟩
set_option maxHeartbeats 4000000 in
set_option maxRecDepth 100000 in
theorem w_X6_endParts {l : Launch} {G : GL} {ad : Nat → Nat} {MM : Mem} {X : CT} (hX : Cx l { frames := 4, cells := 0, slots := 0, locals := 105 } cX6_endParts RX6 4 none G ad X) {p1 : Nat} (hp1 : isWb p1 = true) {M : Mem} : KF l { frames := 4, cells := 0, slots := 0, locals := 105 } 4 G ad (EC G ad MM) (QP PostV G ad (EC G ad MM)) X (f_X6_endParts p1 M) [some (.ref (ad 0)), some (.ref (ad p1)), none, none] 0 [] M := by
  unfold f_X6_endParts
  refine k_iconst (v := (nI 0)) hX rfl dX6_endParts_0 ?_
  refine k_istore_n (L' := [some (.ref (ad 0)), some (.ref (ad p1)), some (.int (nI 0)), none]) hX (i := 2) rfl (by decide) rfl dX6_endParts_1 ?_
  exact w_X6_endParts_2 hX fuelN p1 (nI 0) hp1 M ⟨rfl, rfl, rfl, trivial⟩
set_option maxRecDepth 100000 in
theorem m_X6_endParts {l : Launch} {G : GL} {ad : Nat → Nat} {MM : Mem} (hAd : AdOK G ad) {p1 : Nat} (hp1 : isWb p1 = true) {M : Mem} {r : Rv} (h : f_X6_endParts p1 M = some r) : Ct PostV l G ad (EC G ad MM) yX6_endParts cX6_endParts 4 none 4 105 [.ref (ad 0), .ref (ad p1)] M r := ct_of' hAd (by decide +kernel) (List.forall_mem_cons.mpr ⟨rfl, (List.forall_mem_cons.mpr ⟨rfl, (fun _ h => absurd h List.not_mem_nil)⟩)⟩) (Nat.le_of_ble_eq_true rfl) (L := [some (.ref (ad 0)), some (.ref (ad p1)), none, none]) rfl (fun _ hX => w_X6_endParts hX hp1) h
set_option maxHeartbeats 4000000 in
set_option maxRecDepth 100000 in
theorem w_X6_end_92 {l : Launch} {G : GL} {ad : Nat → Nat} {MM : Mem} {X : CT} (hX : Cx l { frames := 5, cells := 0, slots := 0, locals := 128 } cX6_end RX6 5 (some .int) G ad X) {k35 : Nat → Int32 → Int32 → Mem → Option Rv} (hk35 : ∀ (x1 : Nat) (x2 : Int32) (x3 : Int32) (hx1 : isSb x1 = true) (M : Mem) {L : List (Option Value)}, lsub [some (.ref (ad 0)), some (.ref (ad x1)), some (.int x2), some (.int x3), none] L → KF l { frames := 5, cells := 0, slots := 0, locals := 128 } 5 G ad (EC G ad MM) (QP PostI G ad (EC G ad MM)) X (k35 x1 x2 x3 M) L 35 [] M) : ∀ (x1 : Nat) (x2 : Int32) (x3 : Int32) (hx1 : isSb x1 = true) (M : Mem) {L : List (Option Value)}, lsub [some (.ref (ad 0)), some (.ref (ad x1)), some (.int x2), some (.int x3), none] L → KF l { frames := 5, cells := 0, slots := 0, locals := 128 } 5 G ad (EC G ad MM) (QP PostI G ad (EC G ad MM)) X (f_X6_end_92 k35 x1 x2 x3 M) L 92 [] M := by
  intro x1 x2 x3 hx1 M L hL
  unfold f_X6_end_92
  refine KF.locals (lsub_le hL) ?_
  refine k_iinc (v := x3 + nI 1) (L' := [some (.ref (ad 0)), some (.ref (ad x1)), some (.int x2), some (.int (x3 + nI 1)), none]) hX (i := 3) rfl rfl (by decide) rfl dX6_end_92 ?_
  refine k_goto (tgt := 35) hX dX6_end_95 (by decide) ?_
  exact hk35 x1 x2 (x3 + nI 1) hx1 M ⟨rfl, rfl, rfl, rfl, trivial⟩
set_option maxHeartbeats 4000000 in
set_option maxRecDepth 100000 in
theorem w_X6_end_35 {l : Launch} {G : GL} {ad : Nat → Nat} {MM : Mem} {X : CT} (hX : Cx l { frames := 5, cells := 0, slots := 0, locals := 128 } cX6_end RX6 5 (some .int) G ad X) : ∀ (n : Nat), ∀ (x1 : Nat) (x2 : Int32) (x3 : Int32) (hx1 : isSb x1 = true) (M : Mem) {L : List (Option Value)}, lsub [some (.ref (ad 0)), some (.ref (ad x1)), some (.int x2), some (.int x3), none] L → KF l { frames := 5, cells := 0, slots := 0, locals := 128 } 5 G ad (EC G ad MM) (QP PostI G ad (EC G ad MM)) X (f_X6_end_35 n x1 x2 x3 M) L 35 [] M := by
  intro n
  induction n with
  | zero =>
    intro x1 x2 x3 hx1 M L hL
    exact KF.none'
  | succ n ih =>
    intro x1 x2 x3 hx1 M L hL
    rw [f_X6_end_35]
    refine KF.locals (lsub_le hL) ?_
    refine k_iload_n hX (i := 3) rfl rfl dX6_end_35 ?_
    refine k_aload_n hX (i := 1) rfl rfl dX6_end_36 ?_
    refine k_get hX (io_S hx1) fl_X6_77 rfl dX6_end_37 ?_
    refine k_icmp_ge (tgt := 98) hX dX6_end_40 (by decide) (fun b1 => ?_) (fun b1 => ?_)
    · refine k_aload_n hX (i := 0) rfl rfl dX6_end_98 ?_
      refine k_callVV (vs := []) hX (fun _ h9 => m_X6_recordAndGoOn hX.2.2.2.2.2.2.1  h9) io_0 rfl ml_X6_110 ⟨Nat.le_of_ble_eq_true rfl, Nat.le_of_ble_eq_true rfl⟩ rfl rfl (Nat.le_of_ble_eq_true rfl) dX6_end_99 (fun q2 => ?_)
      refine k_iload_n hX (i := 2) rfl rfl dX6_end_102 ?_
      exact k_iret hX dX6_end_103
    refine k_aload_n hX (i := 1) rfl rfl dX6_end_43 ?_
    refine k_get hX (io_S hx1) fl_X6_80 rfl dX6_end_44 ?_
    refine k_iload_n hX (i := 3) rfl rfl dX6_end_47 ?_
    refine k_aldW hX (iq_S2 hx1) dX6_end_48 (fun c3 gc3 => ?_)
    have hc3 := mlW_is hx1 gc3
    refine k_astore (L' := [some (.ref (ad 0)), some (.ref (ad x1)), some (.int x2), some (.int x3), some (.ref (ad c3))]) hX (by decide) rfl dX6_end_49 ?_
    refine k_aload hX rfl dX6_end_51 ?_
    refine k_get hX (io_W hc3) fl_X6_84 rfl dX6_end_53 ?_
    refine k_if_eq (tgt := 92) hX dX6_end_56 (by decide) (fun b4 => ?_) (fun b4 => ?_)
    · exact w_X6_end_92 hX ih x1 x2 x3 hx1 M ⟨rfl, rfl, rfl, rfl, trivial⟩
    refine k_aload hX rfl dX6_end_59 ?_
    refine k_get hX (io_W hc3) fl_X6_93 rfl dX6_end_61 ?_
    refine k_iconst (v := (nI 2)) hX rfl dX6_end_64 ?_
    refine k_icmp_ne (tgt := 92) hX dX6_end_65 (by decide) (fun b5 => ?_) (fun b5 => ?_)
    · exact w_X6_end_92 hX ih x1 x2 x3 hx1 M ⟨rfl, rfl, rfl, rfl, trivial⟩
    refine k_aload_n hX (i := 0) rfl rfl dX6_end_68 ?_
    refine k_aload hX rfl dX6_end_69 ?_
    refine k_callVV (vs := [.ref (ad c3)]) hX (fun _ h9 => m_X6_endParts hX.2.2.2.2.2.2.1 hc3 h9) io_0 rfl ml_X6_113 ⟨Nat.le_of_ble_eq_true rfl, Nat.le_of_ble_eq_true rfl⟩ rfl rfl (Nat.le_of_ble_eq_true rfl) dX6_end_71 (fun q6 => ?_)
    refine k_aload hX rfl dX6_end_74 ?_
    refine k_aload hX rfl dX6_end_76 ?_
    refine k_callVI (vs := []) hX (fun _ h9 => m_X5_verdictOfParts hX.2.2.2.2.2.2.1 hc3 h9) (io_W hc3) rfl ml_X6_117 ⟨Nat.le_of_ble_eq_true rfl, Nat.le_of_ble_eq_true rfl⟩ rfl rfl (Nat.le_of_ble_eq_true rfl) dX6_end_78 (fun q7 => ?_)
    refine k_puti hX locC (io_W hc3) fp_X6_93 (Nat.le_of_ble_eq_true rfl) rfl dX6_end_81 (fun M8 => ?_)
    refine k_iload_n hX (i := 2) rfl rfl dX6_end_84 ?_
    refine k_aload hX rfl dX6_end_85 ?_
    refine k_get hX (io_W hc3) fl_X6_93 rfl dX6_end_87 ?_
    refine k_iadd hX dX6_end_90 ?_
    refine k_istore_n (L' := [some (.ref (ad 0)), some (.ref (ad x1)), some (.int (x2 + (M8 c3 1))), some (.int x3), some (.ref (ad c3))]) hX (i := 2) rfl (by decide) rfl dX6_end_91 ?_
    exact w_X6_end_92 hX ih x1 (x2 + (M8 c3 1)) x3 hx1 M8 ⟨rfl, rfl, rfl, rfl, trivial⟩
set_option maxHeartbeats 4000000 in
set_option maxRecDepth 100000 in
theorem w_X6_end {l : Launch} {G : GL} {ad : Nat → Nat} {MM : Mem} {X : CT} (hX : Cx l { frames := 5, cells := 0, slots := 0, locals := 128 } cX6_end RX6 5 (some .int) G ad X) {M : Mem} : KF l { frames := 5, cells := 0, slots := 0, locals := 128 } 5 G ad (EC G ad MM) (QP PostI G ad (EC G ad MM)) X (f_X6_end M) [some (.ref (ad 0)), none, none, none, none] 0 [] M := by
  unfold f_X6_end
  refine k_aload_n hX (i := 0) rfl rfl dX6_end_0 ?_
  refine k_gets hX io_0 fl_X6_59 rfl dX6_end_1 (fun c1 hc1 => ?_)
  refine k_get hX (io_S hc1) fl_X6_65 rfl dX6_end_4 ?_
  refine k_if_eq (tgt := 13) hX dX6_end_7 (by decide) (fun b2 => ?_) (fun b2 => ?_)
  · refine k_aload_n hX (i := 0) rfl rfl dX6_end_13 ?_
    refine k_gets hX io_0 fl_X6_62 rfl dX6_end_14 (fun c3 hc3 => ?_)
    refine k_astore_n (L' := [some (.ref (ad 0)), some (.ref (ad c3)), none, none, none]) hX (i := 1) rfl (by decide) rfl dX6_end_17 ?_
    refine k_aload_n hX (i := 1) rfl rfl dX6_end_18 ?_
    refine k_aload_n hX (i := 0) rfl rfl dX6_end_19 ?_
    refine k_gets hX io_0 fl_X6_59 rfl dX6_end_20 (fun c4 hc4 => ?_)
    refine k_callVV (vs := [.ref (ad c4)]) hX (fun _ h9 => m_X4_copyFrom hX.2.2.2.2.2.2.1 hc3 hc4 h9) (io_S hc3) rfl ml_X6_73 ⟨Nat.le_of_ble_eq_true rfl, Nat.le_of_ble_eq_true rfl⟩ rfl rfl (Nat.le_of_ble_eq_true rfl) dX6_end_23 (fun q5 => ?_)
    refine k_aload_n hX (i := 1) rfl rfl dX6_end_26 ?_
    refine k_iconst (v := (nI 1)) hX rfl dX6_end_27 ?_
    refine k_putz hX locC (io_S hc3) fp_X6_65 (Nat.le_of_ble_eq_true rfl) rfl dX6_end_28 (fun M6 => ?_)
    refine k_iconst (v := (nI 0)) hX rfl dX6_end_31 ?_
    refine k_istore_n (L' := [some (.ref (ad 0)), some (.ref (ad c3)), some (.int (nI 0)), none, none]) hX (i := 2) rfl (by decide) rfl dX6_end_32 ?_
    refine k_iconst (v := (nI 0)) hX rfl dX6_end_33 ?_
    refine k_istore_n (L' := [some (.ref (ad 0)), some (.ref (ad c3)), some (.int (nI 0)), some (.int (nI 0)), none]) hX (i := 3) rfl (by decide) rfl dX6_end_34 ?_
    exact w_X6_end_35 hX fuelN c3 (nI 0) (nI 0) hc3 M6 ⟨rfl, rfl, rfl, rfl, trivial⟩
  refine k_bipush (v := (-4)) hX rfl dX6_end_10 ?_
  exact k_iret hX dX6_end_12
set_option maxRecDepth 100000 in
theorem m_X6_end {l : Launch} {G : GL} {ad : Nat → Nat} {MM : Mem} (hAd : AdOK G ad) {M : Mem} {r : Rv} (h : f_X6_end M = some r) : Ct PostI l G ad (EC G ad MM) yX6_end cX6_end 5 (some .int) 5 128 [.ref (ad 0)] M r := ct_of' hAd (by decide +kernel) (List.forall_mem_cons.mpr ⟨rfl, (fun _ h => absurd h List.not_mem_nil)⟩) (Nat.le_of_ble_eq_true rfl) (L := [some (.ref (ad 0)), none, none, none, none]) rfl (fun _ hX => w_X6_end hX) h
set_option maxHeartbeats 4000000 in
set_option maxRecDepth 100000 in
theorem w_X6_bring_60 {l : Launch} {G : GL} {ad : Nat → Nat} {MM : Mem} {X : CT} (hX : Cx l { frames := 3, cells := 0, slots := 0, locals := 70 } cX6_bring RX6 8 (some .int) G ad X) : ∀ (M : Mem) {L : List (Option Value)}, lsub [none, none, none, none, none, none, none, none] L → KF l { frames := 3, cells := 0, slots := 0, locals := 70 } 8 G ad (EC G ad MM) (QP PostI G ad (EC G ad MM)) X (f_X6_bring_60 M) L 60 [] M := by
  intro M L hL
  unfold f_X6_bring_60
  refine KF.locals (lsub_le hL) ?_
  refine k_bipush (v := (-3)) hX rfl dX6_bring_60 ?_
  exact k_iret hX dX6_bring_62
set_option maxHeartbeats 4000000 in
set_option maxRecDepth 100000 in
theorem w_X6_bring_113 {l : Launch} {G : GL} {ad : Nat → Nat} {MM : Mem} {X : CT} (hX : Cx l { frames := 3, cells := 0, slots := 0, locals := 70 } cX6_bring RX6 8 (some .int) G ad X) {k89 : Int32 → Int32 → Int32 → Int32 → Nat → Int32 → Mem → Option Rv} (hk89 : ∀ (x1 : Int32) (x2 : Int32) (x3 : Int32) (x4 : Int32) (x5 : Nat) (x6 : Int32) (hx5 : isWb x5 = true) (M : Mem) {L : List (Option Value)}, lsub [some (.ref (ad 0)), some (.int x1), some (.int x2), some (.int x3), some (.int x4), some (.ref (ad x5)), some (.int x6), none] L → KF l { frames := 3, cells := 0, slots := 0, locals := 70 } 8 G ad (EC G ad MM) (QP PostI G ad (EC G ad MM)) X (k89 x1 x2 x3 x4 x5 x6 M) L 89 [] M) : ∀ (x1 : Int32) (x2 : Int32) (x3 : Int32) (x4 : Int32) (x5 : Nat) (x6 : Int32) (s0 : Int32) (hx5 : isWb x5 = true) (M : Mem) {L : List (Option Value)}, lsub [some (.ref (ad 0)), some (.int x1), some (.int x2), some (.int x3), some (.int x4), some (.ref (ad x5)), some (.int x6), none] L → KF l { frames := 3, cells := 0, slots := 0, locals := 70 } 8 G ad (EC G ad MM) (QP PostI G ad (EC G ad MM)) X (f_X6_bring_113 k89 x1 x2 x3 x4 x5 x6 s0 M) L 113 [.int s0] M := by
  intro x1 x2 x3 x4 x5 x6 s0 hx5 M L hL
  unfold f_X6_bring_113
  refine KF.locals (lsub_le hL) ?_
  refine k_istore (L' := [some (.ref (ad 0)), some (.int x1), some (.int x2), some (.int x3), some (.int x4), some (.ref (ad x5)), some (.int x6), some (.int s0)]) hX (by decide) rfl dX6_bring_113 ?_
  refine k_aload_n hX (i := 0) rfl rfl dX6_bring_115 ?_
  refine k_get hX io_0 fl_X6_12 rfl dX6_bring_116 ?_
  refine k_get hX io_1 fl_X6_220 rfl dX6_bring_119 ?_
  refine k_iload hX rfl dX6_bring_122 ?_
  refine k_ald hX ia_5 dX6_bring_124 (fun v1 => ?_)
  refine k_bipush (v := (nI 120)) hX rfl dX6_bring_125 ?_
  refine k_icmp_le (tgt := 133) hX dX6_bring_127 (by decide) (fun b2 => ?_) (fun b2 => ?_)
  · refine k_aload_n hX (i := 0) rfl rfl dX6_bring_133 ?_
    refine k_get hX io_0 fl_X6_28 rfl dX6_bring_134 ?_
    refine k_iload hX rfl dX6_bring_137 ?_
    refine k_aload hX rfl dX6_bring_139 ?_
    refine k_iload hX rfl dX6_bring_141 ?_
    refine k_callVV (vs := [.int s0, .ref (ad x5), .int x6]) hX (fun _ h9 => m_X3_save hX.2.2.2.2.2.2.1 hx5 h9) io_17 rfl ml_X6_223 ⟨Nat.le_of_ble_eq_true rfl, Nat.le_of_ble_eq_true rfl⟩ rfl rfl (Nat.le_of_ble_eq_true rfl) dX6_bring_143 (fun q3 => ?_)
    refine k_iinc (v := x6 + nI 1) (L' := [some (.ref (ad 0)), some (.int x1), some (.int x2), some (.int x3), some (.int x4), some (.ref (ad x5)), some (.int (x6 + nI 1)), some (.int s0)]) hX (i := 6) rfl rfl (by decide) rfl dX6_bring_146 ?_
    refine k_goto (tgt := 89) hX dX6_bring_149 (by decide) ?_
    exact hk89 x1 x2 x3 x4 x5 (x6 + nI 1) hx5 q3.2 ⟨rfl, rfl, rfl, rfl, rfl, rfl, rfl, trivial⟩
  refine k_bipush (v := (-3)) hX rfl dX6_bring_130 ?_
  exact k_iret hX dX6_bring_132
set_option maxHeartbeats 4000000 in
set_option maxRecDepth 100000 in
theorem w_X6_bring_89 {l : Launch} {G : GL} {ad : Nat → Nat} {MM : Mem} {X : CT} (hX : Cx l { frames := 3, cells := 0, slots := 0, locals := 70 } cX6_bring RX6 8 (some .int) G ad X) : ∀ (n : Nat), ∀ (x1 : Int32) (x2 : Int32) (x3 : Int32) (x4 : Int32) (x5 : Nat) (x6 : Int32) (hx5 : isWb x5 = true) (M : Mem) {L : List (Option Value)}, lsub [some (.ref (ad 0)), some (.int x1), some (.int x2), some (.int x3), some (.int x4), some (.ref (ad x5)), some (.int x6), none] L → KF l { frames := 3, cells := 0, slots := 0, locals := 70 } 8 G ad (EC G ad MM) (QP PostI G ad (EC G ad MM)) X (f_X6_bring_89 n x1 x2 x3 x4 x5 x6 M) L 89 [] M := by
  intro n
  induction n with
  | zero =>
    intro x1 x2 x3 x4 x5 x6 hx5 M L hL
    exact KF.none'
  | succ n ih =>
    intro x1 x2 x3 x4 x5 x6 hx5 M L hL
    rw [f_X6_bring_89]
    refine KF.locals (lsub_le hL) ?_
    refine k_iload hX rfl dX6_bring_89 ?_
    refine k_iload_n hX (i := 3) rfl rfl dX6_bring_91 ?_
    refine k_icmp_ge (tgt := 152) hX dX6_bring_92 (by decide) (fun b1 => ?_) (fun b1 => ?_)
    · refine k_aload hX rfl dX6_bring_152 ?_
      refine k_iload_n hX (i := 3) rfl rfl dX6_bring_154 ?_
      refine k_aload_n hX (i := 0) rfl rfl dX6_bring_155 ?_
      refine k_gets hX io_0 fl_X6_59 rfl dX6_bring_156 (fun c2 hc2 => ?_)
      refine k_get hX (io_S hc2) fl_X6_69 rfl dX6_bring_159 ?_
      refine k_callVV (vs := [.int x3, .int (M c2 1)]) hX (fun _ h9 => m_X5_come hX.2.2.2.2.2.2.1 hx5 h9) (io_W hx5) rfl ml_X6_236 ⟨Nat.le_of_ble_eq_true rfl, Nat.le_of_ble_eq_true rfl⟩ rfl rfl (Nat.le_of_ble_eq_true rfl) dX6_bring_162 (fun q3 => ?_)
      refine k_aload_n hX (i := 0) rfl rfl dX6_bring_165 ?_
      refine k_gets hX io_0 fl_X6_62 rfl dX6_bring_166 (fun c4 hc4 => ?_)
      refine k_dup hX rfl dX6_bring_169 ?_
      refine k_get hX (io_S hc4) fl_X6_77 rfl dX6_bring_170 ?_
      refine k_iconst (v := (nI 1)) hX rfl dX6_bring_173 ?_
      refine k_iadd hX dX6_bring_174 ?_
      refine k_puti hX locC (io_S hc4) fp_X6_77 (Nat.le_of_ble_eq_true rfl) rfl dX6_bring_175 (fun M5 => ?_)
      refine k_aload_n hX (i := 0) rfl rfl dX6_bring_178 ?_
      refine k_callVV (vs := []) hX (fun _ h9 => m_X6_recordAndGoOn hX.2.2.2.2.2.2.1  h9) io_0 rfl ml_X6_110 ⟨Nat.le_of_ble_eq_true rfl, Nat.le_of_ble_eq_true rfl⟩ rfl rfl (Nat.le_of_ble_eq_true rfl) dX6_bring_179 (fun q6 => ?_)
      refine k_iload hX rfl dX6_bring_182 ?_
      exact k_iret hX dX6_bring_184
    refine k_iload_n hX (i := 2) rfl rfl dX6_bring_95 ?_
    refine k_if_eq (tgt := 112) hX dX6_bring_96 (by decide) (fun b7 => ?_) (fun b7 => ?_)
    · refine k_iload_n hX (i := 1) rfl rfl dX6_bring_112 ?_
      exact w_X6_bring_113 hX ih x1 x2 x3 x4 x5 x6 x1 hx5 M ⟨rfl, rfl, rfl, rfl, rfl, rfl, rfl, trivial⟩
    refine k_aload_n hX (i := 0) rfl rfl dX6_bring_99 ?_
    refine k_get hX io_0 fl_X6_12 rfl dX6_bring_100 ?_
    refine k_iload_n hX (i := 1) rfl rfl dX6_bring_103 ?_
    refine k_iload hX rfl dX6_bring_104 ?_
    refine k_callVI (vs := [.int x1, .int x6]) hX (fun _ h9 => m_X1_kid hX.2.2.2.2.2.2.1  h9) io_1 rfl ml_X6_233 ⟨Nat.le_of_ble_eq_true rfl, Nat.le_of_ble_eq_true rfl⟩ rfl rfl (Nat.le_of_ble_eq_true rfl) dX6_bring_106 (fun q8 => ?_)
    refine k_goto (tgt := 113) hX dX6_bring_109 (by decide) ?_
    exact w_X6_bring_113 hX ih x1 x2 x3 x4 x5 x6 q8.1 hx5 q8.2 ⟨rfl, rfl, rfl, rfl, rfl, rfl, rfl, trivial⟩
set_option maxHeartbeats 4000000 in
set_option maxRecDepth 100000 in
theorem w_X6_bring_37 {l : Launch} {G : GL} {ad : Nat → Nat} {MM : Mem} {X : CT} (hX : Cx l { frames := 3, cells := 0, slots := 0, locals := 70 } cX6_bring RX6 8 (some .int) G ad X) : ∀ (x1 : Int32) (x2 : Int32) (s0 : Int32) (M : Mem) {L : List (Option Value)}, lsub [some (.ref (ad 0)), some (.int x1), some (.int x2), none, none, none, none, none] L → KF l { frames := 3, cells := 0, slots := 0, locals := 70 } 8 G ad (EC G ad MM) (QP PostI G ad (EC G ad MM)) X (f_X6_bring_37 x1 x2 s0 M) L 37 [.int s0] M := by
  intro x1 x2 s0 M L hL
  unfold f_X6_bring_37
  refine KF.locals (lsub_le hL) ?_
  refine k_istore_n (L' := [some (.ref (ad 0)), some (.int x1), some (.int x2), some (.int s0), none, none, none, none]) hX (i := 3) rfl (by decide) rfl dX6_bring_37 ?_
  refine k_aload_n hX (i := 0) rfl rfl dX6_bring_38 ?_
  refine k_gets hX io_0 fl_X6_59 rfl dX6_bring_39 (fun c1 hc1 => ?_)
  refine k_get hX (io_S hc1) fl_X6_77 rfl dX6_bring_42 ?_
  refine k_istore (L' := [some (.ref (ad 0)), some (.int x1), some (.int x2), some (.int s0), some (.int (M c1 2)), none, none, none]) hX (by decide) rfl dX6_bring_45 ?_
  refine k_iload hX rfl dX6_bring_47 ?_
  refine k_bipush (v := (nI 8)) hX rfl dX6_bring_49 ?_
  refine k_icmp_ge (tgt := 60) hX dX6_bring_51 (by decide) (fun b2 => ?_) (fun b2 => ?_)
  · exact w_X6_bring_60 hX M trivial
  refine k_iload_n hX (i := 3) rfl rfl dX6_bring_54 ?_
  refine k_bipush (v := (nI 8)) hX rfl dX6_bring_55 ?_
  refine k_icmp_le (tgt := 63) hX dX6_bring_57 (by decide) (fun b3 => ?_) (fun b3 => ?_)
  · refine k_aload_n hX (i := 0) rfl rfl dX6_bring_63 ?_
    refine k_gets hX io_0 fl_X6_62 rfl dX6_bring_64 (fun c4 hc4 => ?_)
    refine k_aload_n hX (i := 0) rfl rfl dX6_bring_67 ?_
    refine k_gets hX io_0 fl_X6_59 rfl dX6_bring_68 (fun c5 hc5 => ?_)
    refine k_callVV (vs := [.ref (ad c5)]) hX (fun _ h9 => m_X4_copyFrom hX.2.2.2.2.2.2.1 hc4 hc5 h9) (io_S hc4) rfl ml_X6_73 ⟨Nat.le_of_ble_eq_true rfl, Nat.le_of_ble_eq_true rfl⟩ rfl rfl (Nat.le_of_ble_eq_true rfl) dX6_bring_71 (fun q6 => ?_)
    refine k_aload_n hX (i := 0) rfl rfl dX6_bring_74 ?_
    refine k_gets hX io_0 fl_X6_62 rfl dX6_bring_75 (fun c7 hc7 => ?_)
    refine k_get hX (io_S hc7) fl_X6_80 rfl dX6_bring_78 ?_
    refine k_iload hX rfl dX6_bring_81 ?_
    refine k_aldW hX (iq_S2 hc7) dX6_bring_83 (fun c8 gc8 => ?_)
    have hc8 := mlW_is hc7 gc8
    refine k_astore (L' := [some (.ref (ad 0)), some (.int x1), some (.int x2), some (.int s0), some (.int (M c1 2)), some (.ref (ad c8)), none, none]) hX (by decide) rfl dX6_bring_84 ?_
    refine k_iconst (v := (nI 0)) hX rfl dX6_bring_86 ?_
    refine k_istore (L' := [some (.ref (ad 0)), some (.int x1), some (.int x2), some (.int s0), some (.int (M c1 2)), some (.ref (ad c8)), some (.int (nI 0)), none]) hX (by decide) rfl dX6_bring_87 ?_
    exact w_X6_bring_89 hX fuelN x1 x2 s0 (M c1 2) c8 (nI 0) hc8 q6.2 ⟨rfl, rfl, rfl, rfl, rfl, rfl, rfl, trivial⟩
  exact w_X6_bring_60 hX M trivial
set_option maxHeartbeats 4000000 in
set_option maxRecDepth 100000 in
theorem w_X6_bring_19 {l : Launch} {G : GL} {ad : Nat → Nat} {MM : Mem} {X : CT} (hX : Cx l { frames := 3, cells := 0, slots := 0, locals := 70 } cX6_bring RX6 8 (some .int) G ad X) : ∀ (x1 : Int32) (s0 : Int32) (M : Mem) {L : List (Option Value)}, lsub [some (.ref (ad 0)), some (.int x1), none, none, none, none, none, none] L → KF l { frames := 3, cells := 0, slots := 0, locals := 70 } 8 G ad (EC G ad MM) (QP PostI G ad (EC G ad MM)) X (f_X6_bring_19 x1 s0 M) L 19 [.int s0] M := by
  intro x1 s0 M L hL
  unfold f_X6_bring_19
  refine KF.locals (lsub_le hL) ?_
  refine k_istore_n (L' := [some (.ref (ad 0)), some (.int x1), some (.int s0), none, none, none, none, none]) hX (i := 2) rfl (by decide) rfl dX6_bring_19 ?_
  refine k_iload_n hX (i := 2) rfl rfl dX6_bring_20 ?_
  refine k_if_eq (tgt := 36) hX dX6_bring_21 (by decide) (fun b1 => ?_) (fun b1 => ?_)
  · refine k_iconst (v := (nI 1)) hX rfl dX6_bring_36 ?_
    exact w_X6_bring_37 hX x1 s0 (nI 1) M ⟨rfl, rfl, rfl, trivial⟩
  refine k_aload_n hX (i := 0) rfl rfl dX6_bring_24 ?_
  refine k_get hX io_0 fl_X6_12 rfl dX6_bring_25 ?_
  refine k_get hX io_1 fl_X6_230 rfl dX6_bring_28 ?_
  refine k_iload_n hX (i := 1) rfl rfl dX6_bring_31 ?_
  refine k_ald hX ia_4 dX6_bring_32 (fun v2 => ?_)
  refine k_goto (tgt := 37) hX dX6_bring_33 (by decide) ?_
  exact w_X6_bring_37 hX x1 s0 v2 M ⟨rfl, rfl, rfl, trivial⟩
set_option maxHeartbeats 4000000 in
set_option maxRecDepth 100000 in
theorem w_X6_bring {l : Launch} {G : GL} {ad : Nat → Nat} {MM : Mem} {X : CT} (hX : Cx l { frames := 3, cells := 0, slots := 0, locals := 70 } cX6_bring RX6 8 (some .int) G ad X) {p1 : Int32} {M : Mem} : KF l { frames := 3, cells := 0, slots := 0, locals := 70 } 8 G ad (EC G ad MM) (QP PostI G ad (EC G ad MM)) X (f_X6_bring p1 M) [some (.ref (ad 0)), some (.int p1), none, none, none, none, none, none] 0 [] M := by
  unfold f_X6_bring
  refine k_aload_n hX (i := 0) rfl rfl dX6_bring_0 ?_
  refine k_get hX io_0 fl_X6_12 rfl dX6_bring_1 ?_
  refine k_get hX io_1 fl_X6_227 rfl dX6_bring_4 ?_
  refine k_iload_n hX (i := 1) rfl rfl dX6_bring_7 ?_
  refine k_ald hX ia_2 dX6_bring_8 (fun v1 => ?_)
  refine k_bipush (v := (nI 20)) hX rfl dX6_bring_9 ?_
  refine k_icmp_ne (tgt := 18) hX dX6_bring_11 (by decide) (fun b2 => ?_) (fun b2 => ?_)
  · refine k_iconst (v := (nI 0)) hX rfl dX6_bring_18 ?_
    exact w_X6_bring_19 hX p1 (nI 0) M ⟨rfl, rfl, trivial⟩
  refine k_iconst (v := (nI 1)) hX rfl dX6_bring_14 ?_
  refine k_goto (tgt := 19) hX dX6_bring_15 (by decide) ?_
  exact w_X6_bring_19 hX p1 (nI 1) M ⟨rfl, rfl, trivial⟩
set_option maxRecDepth 100000 in
theorem m_X6_bring {l : Launch} {G : GL} {ad : Nat → Nat} {MM : Mem} (hAd : AdOK G ad) {p1 : Int32} {M : Mem} {r : Rv} (h : f_X6_bring p1 M = some r) : Ct PostI l G ad (EC G ad MM) yX6_bring cX6_bring 8 (some .int) 3 70 [.ref (ad 0), .int p1] M r := ct_of' hAd (by decide +kernel) (List.forall_mem_cons.mpr ⟨rfl, (List.forall_mem_cons.mpr ⟨rfl, (fun _ h => absurd h List.not_mem_nil)⟩)⟩) (Nat.le_of_ble_eq_true rfl) (L := [some (.ref (ad 0)), some (.int p1), none, none, none, none, none, none]) rfl (fun _ hX => w_X6_bring hX) h
set_option maxHeartbeats 4000000 in
set_option maxRecDepth 100000 in
theorem w_X6_addWish {l : Launch} {G : GL} {ad : Nat → Nat} {MM : Mem} {X : CT} (hX : Cx l { frames := 7, cells := 0, slots := 0, locals := 172 } cX6_addWish RX6 2 (some .int) G ad X) {M : Mem} : KF l { frames := 7, cells := 0, slots := 0, locals := 172 } 2 G ad (EC G ad MM) (QP PostI G ad (EC G ad MM)) X (f_X6_addWish M) [some (.ref (ad 0)), none] 0 [] M := by
  unfold f_X6_addWish
  refine k_aload_n hX (i := 0) rfl rfl dX6_addWish_0 ?_
  refine k_get hX io_0 fl_X6_37 rfl dX6_addWish_1 ?_
  refine k_callVI (vs := []) hX (fun _ h9 => m_X2_findFault hX.2.2.2.2.2.2.1  h9) io_22 rfl ml_X6_121 ⟨Nat.le_of_ble_eq_true rfl, Nat.le_of_ble_eq_true rfl⟩ rfl rfl (Nat.le_of_ble_eq_true rfl) dX6_addWish_4 (fun q1 => ?_)
  refine k_istore_n (L' := [some (.ref (ad 0)), some (.int q1.1)]) hX (i := 1) rfl (by decide) rfl dX6_addWish_7 ?_
  refine k_iload_n hX (i := 1) rfl rfl dX6_addWish_8 ?_
  refine k_if_lt (tgt := 17) hX dX6_addWish_9 (by decide) (fun b2 => ?_) (fun b2 => ?_)
  · refine k_aload_n hX (i := 0) rfl rfl dX6_addWish_17 ?_
    refine k_gets hX io_0 fl_X6_59 rfl dX6_addWish_18 (fun c3 hc3 => ?_)
    refine k_get hX (io_S hc3) fl_X6_65 rfl dX6_addWish_21 ?_
    refine k_if_eq (tgt := 30) hX dX6_addWish_24 (by decide) (fun b4 => ?_) (fun b4 => ?_)
    · refine k_aload_n hX (i := 0) rfl rfl dX6_addWish_30 ?_
      refine k_get hX io_0 fl_X6_12 rfl dX6_addWish_31 ?_
      refine k_bipush (v := (nI 16)) hX rfl dX6_addWish_34 ?_
      refine k_callVV (vs := [.int (nI 16)]) hX (fun _ h9 => m_X1_release hX.2.2.2.2.2.2.1  h9) io_1 rfl ml_X6_124 ⟨Nat.le_of_ble_eq_true rfl, Nat.le_of_ble_eq_true rfl⟩ rfl rfl (Nat.le_of_ble_eq_true rfl) dX6_addWish_36 (fun q5 => ?_)
      refine k_aload_n hX (i := 0) rfl rfl dX6_addWish_39 ?_
      refine k_aload_n hX (i := 0) rfl rfl dX6_addWish_40 ?_
      refine k_get hX io_0 fl_X6_37 rfl dX6_addWish_41 ?_
      refine k_callVI (vs := []) hX (fun _ h9 => m_X2_read hX.2.2.2.2.2.2.1  h9) io_22 rfl ml_X6_128 ⟨Nat.le_of_ble_eq_true rfl, Nat.le_of_ble_eq_true rfl⟩ rfl rfl (Nat.le_of_ble_eq_true rfl) dX6_addWish_44 (fun q6 => ?_)
      refine k_callVI (vs := [.int q6.1]) hX (fun _ h9 => m_X6_bring hX.2.2.2.2.2.2.1  h9) io_0 rfl ml_X6_131 ⟨Nat.le_of_ble_eq_true rfl, Nat.le_of_ble_eq_true rfl⟩ rfl rfl (Nat.le_of_ble_eq_true rfl) dX6_addWish_47 (fun q7 => ?_)
      exact k_iret hX dX6_addWish_50
    refine k_bipush (v := (-4)) hX rfl dX6_addWish_27 ?_
    exact k_iret hX dX6_addWish_29
  refine k_bipush (v := (-100)) hX rfl dX6_addWish_12 ?_
  refine k_iload_n hX (i := 1) rfl rfl dX6_addWish_14 ?_
  refine k_isub hX dX6_addWish_15 ?_
  exact k_iret hX dX6_addWish_16
set_option maxRecDepth 100000 in
theorem m_X6_addWish {l : Launch} {G : GL} {ad : Nat → Nat} {MM : Mem} (hAd : AdOK G ad) {M : Mem} {r : Rv} (h : f_X6_addWish M = some r) : Ct PostI l G ad (EC G ad MM) yX6_addWish cX6_addWish 2 (some .int) 7 172 [.ref (ad 0)] M r := ct_of' hAd (by decide +kernel) (List.forall_mem_cons.mpr ⟨rfl, (fun _ h => absurd h List.not_mem_nil)⟩) (Nat.le_of_ble_eq_true rfl) (L := [some (.ref (ad 0)), none]) rfl (fun _ hX => w_X6_addWish hX) h
set_option maxHeartbeats 4000000 in
set_option maxRecDepth 100000 in
theorem w_X6_allOfParts_11 {l : Launch} {G : GL} {ad : Nat → Nat} {MM : Mem} {X : CT} (hX : Cx l { frames := 3, cells := 0, slots := 0, locals := 83 } cX6_allOfParts RX6 3 (some .int) G ad X) : ∀ (n : Nat), ∀ (x1 : Nat) (x2 : Int32) (hx1 : isWb x1 = true) (M : Mem) {L : List (Option Value)}, lsub [some (.ref (ad 0)), some (.ref (ad x1)), some (.int x2)] L → KF l { frames := 3, cells := 0, slots := 0, locals := 83 } 3 G ad (EC G ad MM) (QP PostI G ad (EC G ad MM)) X (f_X6_allOfParts_11 n x1 x2 M) L 11 [] M := by
  intro n
  induction n with
  | zero =>
    intro x1 x2 hx1 M L hL
    exact KF.none'
  | succ n ih =>
    intro x1 x2 hx1 M L hL
    rw [f_X6_allOfParts_11]
    refine KF.locals (lsub_le hL) ?_
    refine k_iload_n hX (i := 2) rfl rfl dX6_allOfParts_11 ?_
    refine k_aload_n hX (i := 1) rfl rfl dX6_allOfParts_12 ?_
    refine k_get hX (io_W hx1) fl_X6_163 rfl dX6_allOfParts_13 ?_
    refine k_icmp_ge (tgt := 41) hX dX6_allOfParts_16 (by decide) (fun b1 => ?_) (fun b1 => ?_)
    · refine k_aload_n hX (i := 0) rfl rfl dX6_allOfParts_41 ?_
      refine k_get hX io_0 fl_X6_21 rfl dX6_allOfParts_42 ?_
      refine k_callVI (vs := []) hX (fun _ h9 => m_X0_done hX.2.2.2.2.2.2.1  h9) io_13 rfl ml_X6_249 ⟨Nat.le_of_ble_eq_true rfl, Nat.le_of_ble_eq_true rfl⟩ rfl rfl (Nat.le_of_ble_eq_true rfl) dX6_allOfParts_45 (fun q2 => ?_)
      exact k_iret hX dX6_allOfParts_48
    refine k_aload_n hX (i := 0) rfl rfl dX6_allOfParts_19 ?_
    refine k_get hX io_0 fl_X6_21 rfl dX6_allOfParts_20 ?_
    refine k_aload_n hX (i := 0) rfl rfl dX6_allOfParts_23 ?_
    refine k_get hX io_0 fl_X6_28 rfl dX6_allOfParts_24 ?_
    refine k_aload_n hX (i := 1) rfl rfl dX6_allOfParts_27 ?_
    refine k_iload_n hX (i := 2) rfl rfl dX6_allOfParts_28 ?_
    refine k_callVI (vs := [.ref (ad x1), .int x2]) hX (fun _ h9 => m_X3_load hX.2.2.2.2.2.2.1 hx1 h9) io_17 rfl ml_X6_240 ⟨Nat.le_of_ble_eq_true rfl, Nat.le_of_ble_eq_true rfl⟩ rfl rfl (Nat.le_of_ble_eq_true rfl) dX6_allOfParts_29 (fun q3 => ?_)
    refine k_callVV (vs := [.int q3.1]) hX (fun _ h9 => m_X0_put hX.2.2.2.2.2.2.1  h9) io_13 rfl ml_X6_246 ⟨Nat.le_of_ble_eq_true rfl, Nat.le_of_ble_eq_true rfl⟩ rfl rfl (Nat.le_of_ble_eq_true rfl) dX6_allOfParts_32 (fun q4 => ?_)
    refine k_iinc (v := x2 + nI 1) (L' := [some (.ref (ad 0)), some (.ref (ad x1)), some (.int (x2 + nI 1))]) hX (i := 2) rfl rfl (by decide) rfl dX6_allOfParts_35 ?_
    refine k_goto (tgt := 11) hX dX6_allOfParts_38 (by decide) ?_
    exact ih x1 (x2 + nI 1) hx1 q4.2 ⟨rfl, rfl, rfl, trivial⟩
set_option maxHeartbeats 4000000 in
set_option maxRecDepth 100000 in
theorem w_X6_allOfParts {l : Launch} {G : GL} {ad : Nat → Nat} {MM : Mem} {X : CT} (hX : Cx l { frames := 3, cells := 0, slots := 0, locals := 83 } cX6_allOfParts RX6 3 (some .int) G ad X) {p1 : Nat} (hp1 : isWb p1 = true) {M : Mem} : KF l { frames := 3, cells := 0, slots := 0, locals := 83 } 3 G ad (EC G ad MM) (QP PostI G ad (EC G ad MM)) X (f_X6_allOfParts p1 M) [some (.ref (ad 0)), some (.ref (ad p1)), none] 0 [] M := by
  unfold f_X6_allOfParts
  refine k_aload_n hX (i := 0) rfl rfl dX6_allOfParts_0 ?_
  refine k_get hX io_0 fl_X6_21 rfl dX6_allOfParts_1 ?_
  refine k_bipush (v := (nI 20)) hX rfl dX6_allOfParts_4 ?_
  refine k_callVV (vs := [.int (nI 20)]) hX (fun _ h9 => m_X0_begin hX.2.2.2.2.2.2.1  h9) io_13 rfl ml_X6_243 ⟨Nat.le_of_ble_eq_true rfl, Nat.le_of_ble_eq_true rfl⟩ rfl rfl (Nat.le_of_ble_eq_true rfl) dX6_allOfParts_6 (fun q1 => ?_)
  refine k_iconst (v := (nI 0)) hX rfl dX6_allOfParts_9 ?_
  refine k_istore_n (L' := [some (.ref (ad 0)), some (.ref (ad p1)), some (.int (nI 0))]) hX (i := 2) rfl (by decide) rfl dX6_allOfParts_10 ?_
  exact w_X6_allOfParts_11 hX fuelN p1 (nI 0) hp1 q1.2 ⟨rfl, rfl, rfl, trivial⟩
set_option maxRecDepth 100000 in
theorem m_X6_allOfParts {l : Launch} {G : GL} {ad : Nat → Nat} {MM : Mem} (hAd : AdOK G ad) {p1 : Nat} (hp1 : isWb p1 = true) {M : Mem} {r : Rv} (h : f_X6_allOfParts p1 M = some r) : Ct PostI l G ad (EC G ad MM) yX6_allOfParts cX6_allOfParts 3 (some .int) 3 83 [.ref (ad 0), .ref (ad p1)] M r := ct_of' hAd (by decide +kernel) (List.forall_mem_cons.mpr ⟨rfl, (List.forall_mem_cons.mpr ⟨rfl, (fun _ h => absurd h List.not_mem_nil)⟩)⟩) (Nat.le_of_ble_eq_true rfl) (L := [some (.ref (ad 0)), some (.ref (ad p1)), none]) rfl (fun _ hX => w_X6_allOfParts hX hp1) h
set_option maxHeartbeats 4000000 in
set_option maxRecDepth 100000 in
theorem w_X6_join_30 {l : Launch} {G : GL} {ad : Nat → Nat} {MM : Mem} {X : CT} (hX : Cx l { frames := 4, cells := 0, slots := 0, locals := 105 } cX6_join RX6 8 (some .int) G ad X) : ∀ (M : Mem) {L : List (Option Value)}, lsub [none, none, none, none, none, none, none, none] L → KF l { frames := 4, cells := 0, slots := 0, locals := 105 } 8 G ad (EC G ad MM) (QP PostI G ad (EC G ad MM)) X (f_X6_join_30 M) L 30 [] M := by
  intro M L hL
  unfold f_X6_join_30
  refine KF.locals (lsub_le hL) ?_
  refine k_iconst (v := (-1)) hX rfl dX6_join_30 ?_
  exact k_iret hX dX6_join_31
set_option maxHeartbeats 4000000 in
set_option maxRecDepth 100000 in
theorem w_X6_join_86 {l : Launch} {G : GL} {ad : Nat → Nat} {MM : Mem} {X : CT} (hX : Cx l { frames := 4, cells := 0, slots := 0, locals := 105 } cX6_join RX6 8 (some .int) G ad X) : ∀ (x6 : Int32) (x7 : Int32) (s0 : Int32) (M : Mem) {L : List (Option Value)}, lsub [none, none, none, none, none, none, some (.int x6), some (.int x7)] L → KF l { frames := 4, cells := 0, slots := 0, locals := 105 } 8 G ad (EC G ad MM) (QP PostI G ad (EC G ad MM)) X (f_X6_join_86 x6 x7 s0 M) L 86 [.int s0, .ref (ad 13), .ref (ad 0)] M := by
  intro x6 x7 s0 M L hL
  unfold f_X6_join_86
  refine KF.locals (lsub_le hL) ?_
  refine k_iload hX rfl dX6_join_86 ?_
  refine k_iload hX rfl dX6_join_88 ?_
  refine k_callVI (vs := [.int s0, .int x6, .int x7]) hX (fun _ h9 => m_X0_two hX.2.2.2.2.2.2.1  h9) io_13 rfl ml_X6_143 ⟨Nat.le_of_ble_eq_true rfl, Nat.le_of_ble_eq_true rfl⟩ rfl rfl (Nat.le_of_ble_eq_true rfl) dX6_join_90 (fun q1 => ?_)
  refine k_callVI (vs := [.int q1.1]) hX (fun _ h9 => m_X6_bring hX.2.2.2.2.2.2.1  h9) io_0 rfl ml_X6_131 ⟨Nat.le_of_ble_eq_true rfl, Nat.le_of_ble_eq_true rfl⟩ rfl rfl (Nat.le_of_ble_eq_true rfl) dX6_join_93 (fun q2 => ?_)
  exact k_iret hX dX6_join_96
set_option maxHeartbeats 4000000 in
set_option maxRecDepth 100000 in
theorem w_X6_join {l : Launch} {G : GL} {ad : Nat → Nat} {MM : Mem} {X : CT} (hX : Cx l { frames := 4, cells := 0, slots := 0, locals := 105 } cX6_join RX6 8 (some .int) G ad X) {p1 : Int32} {p2 : Int32} {p3 : Int32} {M : Mem} : KF l { frames := 4, cells := 0, slots := 0, locals := 105 } 8 G ad (EC G ad MM) (QP PostI G ad (EC G ad MM)) X (f_X6_join p1 p2 p3 M) [some (.ref (ad 0)), some (.int p1), some (.int p2), some (.int p3), none, none, none, none] 0 [] M := by
  unfold f_X6_join
  refine k_aload_n hX (i := 0) rfl rfl dX6_join_0 ?_
  refine k_gets hX io_0 fl_X6_59 rfl dX6_join_1 (fun c1 hc1 => ?_)
  refine k_iload_n hX (i := 1) rfl rfl dX6_join_4 ?_
  refine k_callVQ (vs := [.int p1]) hX (fun _ h9 => m_X4_find hX.2.2.2.2.2.2.1 hc1 h9) (io_S hc1) rfl ml_X6_135 ⟨Nat.le_of_ble_eq_true rfl, Nat.le_of_ble_eq_true rfl⟩ rfl rfl (Nat.le_of_ble_eq_true rfl) dX6_join_5 (fun q2 => ?_)
  refine k_astoreQ (L' := [some (.ref (ad 0)), some (.int p1), some (.int p2), some (.int p3), some (va_rf (nqv ad q2.1)), none, none, none]) hX (by decide) rfl dX6_join_8 ?_
  refine k_aload_n hX (i := 0) rfl rfl dX6_join_10 ?_
  refine k_gets hX io_0 fl_X6_59 rfl dX6_join_11 (fun c3 hc3 => ?_)
  refine k_iload_n hX (i := 2) rfl rfl dX6_join_14 ?_
  refine k_callVQ (vs := [.int p2]) hX (fun _ h9 => m_X4_find hX.2.2.2.2.2.2.1 hc3 h9) (io_S hc3) rfl ml_X6_135 ⟨Nat.le_of_ble_eq_true rfl, Nat.le_of_ble_eq_true rfl⟩ rfl rfl (Nat.le_of_ble_eq_true rfl) dX6_join_15 (fun q4 => ?_)
  refine k_astoreQ (L' := [some (.ref (ad 0)), some (.int p1), some (.int p2), some (.int p3), some (va_rf (nqv ad q2.1)), some (va_rf (nqv ad q4.1)), none, none]) hX (by decide) rfl dX6_join_18 ?_
  refine k_aloadQ hX rfl dX6_join_20 ?_
  refine k_ifnullQ (tgt := 30) hX dX6_join_22 (by decide) (fun b5 => ?_) (fun b5 => ?_)
  · exact w_X6_join_30 hX q4.2 trivial
  refine k_aloadQ hX rfl dX6_join_25 ?_
  refine k_ifnonnullQ (tgt := 32) hX dX6_join_27 (by decide) (fun b6 => ?_) (fun b6 => ?_)
  · refine k_aload_n hX (i := 0) rfl rfl dX6_join_32 ?_
    refine k_gets hX io_0 fl_X6_59 rfl dX6_join_33 (fun c7 hc7 => ?_)
    refine k_get hX (io_S hc7) fl_X6_65 rfl dX6_join_36 ?_
    refine k_if_eq (tgt := 45) hX dX6_join_39 (by decide) (fun b8 => ?_) (fun b8 => ?_)
    · refine k_aload_n hX (i := 0) rfl rfl dX6_join_45 ?_
      refine k_get hX io_0 fl_X6_12 rfl dX6_join_46 ?_
      refine k_bipush (v := (nI 16)) hX rfl dX6_join_49 ?_
      refine k_callVV (vs := [.int (nI 16)]) hX (fun _ h9 => m_X1_release hX.2.2.2.2.2.2.1  h9) io_1 rfl ml_X6_124 ⟨Nat.le_of_ble_eq_true rfl, Nat.le_of_ble_eq_true rfl⟩ rfl rfl (Nat.le_of_ble_eq_true rfl) dX6_join_51 (fun q9 => ?_)
      refine k_aload_n hX (i := 0) rfl rfl dX6_join_54 ?_
      refine k_aloadW (i := 4) rfl (fun c10 hc10 => ?_)
      refine KF.locals (L' := [some (.ref (ad 0)), some (.int p1), some (.int p2), some (.int p3), some (.ref (ad c10)), some (va_rf (nqv ad q4.1)), none, none]) (fun _ _ h9 => h9) ?_
      refine k_aload hX rfl dX6_join_55 ?_
      refine k_callVI (vs := [.ref (ad c10)]) hX (fun _ h9 => m_X6_allOfParts hX.2.2.2.2.2.2.1 hc10 h9) io_0 rfl ml_X6_139 ⟨Nat.le_of_ble_eq_true rfl, Nat.le_of_ble_eq_true rfl⟩ rfl rfl (Nat.le_of_ble_eq_true rfl) dX6_join_57 (fun q11 => ?_)
      refine k_istore (L' := [some (.ref (ad 0)), some (.int p1), some (.int p2), some (.int p3), some (.ref (ad c10)), some (va_rf (nqv ad q4.1)), some (.int q11.1), none]) hX (by decide) rfl dX6_join_60 ?_
      refine k_aload_n hX (i := 0) rfl rfl dX6_join_62 ?_
      refine k_aloadW (i := 5) rfl (fun c12 hc12 => ?_)
      refine KF.locals (L' := [some (.ref (ad 0)), some (.int p1), some (.int p2), some (.int p3), some (.ref (ad c10)), some (.ref (ad c12)), some (.int q11.1), none]) (fun _ _ h9 => h9) ?_
      refine k_aload hX rfl dX6_join_63 ?_
      refine k_callVI (vs := [.ref (ad c12)]) hX (fun _ h9 => m_X6_allOfParts hX.2.2.2.2.2.2.1 hc12 h9) io_0 rfl ml_X6_139 ⟨Nat.le_of_ble_eq_true rfl, Nat.le_of_ble_eq_true rfl⟩ rfl rfl (Nat.le_of_ble_eq_true rfl) dX6_join_65 (fun q13 => ?_)
      refine k_istore (L' := [some (.ref (ad 0)), some (.int p1), some (.int p2), some (.int p3), some (.ref (ad c10)), some (.ref (ad c12)), some (.int q11.1), some (.int q13.1)]) hX (by decide) rfl dX6_join_68 ?_
      refine k_aload_n hX (i := 0) rfl rfl dX6_join_70 ?_
      refine k_aload_n hX (i := 0) rfl rfl dX6_join_71 ?_
      refine k_get hX io_0 fl_X6_21 rfl dX6_join_72 ?_
      refine k_iload_n hX (i := 3) rfl rfl dX6_join_75 ?_
      refine k_if_eq (tgt := 84) hX dX6_join_76 (by decide) (fun b14 => ?_) (fun b14 => ?_)
      · refine k_bipush (v := (nI 20)) hX rfl dX6_join_84 ?_
        exact w_X6_join_86 hX q11.1 q13.1 (nI 20) q13.2 ⟨rfl, rfl, trivial⟩
      refine k_bipush (v := (nI 21)) hX rfl dX6_join_79 ?_
      refine k_goto (tgt := 86) hX dX6_join_81 (by decide) ?_
      exact w_X6_join_86 hX q11.1 q13.1 (nI 21) q13.2 ⟨rfl, rfl, trivial⟩
    refine k_bipush (v := (-4)) hX rfl dX6_join_42 ?_
    exact k_iret hX dX6_join_44
  exact w_X6_join_30 hX q4.2 trivial
set_option maxRecDepth 100000 in
theorem m_X6_join {l : Launch} {G : GL} {ad : Nat → Nat} {MM : Mem} (hAd : AdOK G ad) {p1 : Int32} {p2 : Int32} {p3 : Int32} {M : Mem} {r : Rv} (h : f_X6_join p1 p2 p3 M = some r) : Ct PostI l G ad (EC G ad MM) yX6_join cX6_join 8 (some .int) 4 105 [.ref (ad 0), .int p1, .int p2, .int p3] M r := ct_of' hAd (by decide +kernel) (List.forall_mem_cons.mpr ⟨rfl, (List.forall_mem_cons.mpr ⟨rfl, (List.forall_mem_cons.mpr ⟨rfl, (List.forall_mem_cons.mpr ⟨rfl, (fun _ h => absurd h List.not_mem_nil)⟩)⟩)⟩)⟩) (Nat.le_of_ble_eq_true rfl) (L := [some (.ref (ad 0)), some (.int p1), some (.int p2), some (.int p3), none, none, none, none]) rfl (fun _ hX => w_X6_join hX) h
set_option maxHeartbeats 4000000 in
set_option maxRecDepth 100000 in
theorem w_X6_removeWish {l : Launch} {G : GL} {ad : Nat → Nat} {MM : Mem} {X : CT} (hX : Cx l { frames := 3, cells := 0, slots := 0, locals := 70 } cX6_removeWish RX6 3 (some .int) G ad X) {p1 : Int32} {M : Mem} : KF l { frames := 3, cells := 0, slots := 0, locals := 70 } 3 G ad (EC G ad MM) (QP PostI G ad (EC G ad MM)) X (f_X6_removeWish p1 M) [some (.ref (ad 0)), some (.int p1), none] 0 [] M := by
  unfold f_X6_removeWish
  refine k_aload_n hX (i := 0) rfl rfl dX6_removeWish_0 ?_
  refine k_gets hX io_0 fl_X6_59 rfl dX6_removeWish_1 (fun c1 hc1 => ?_)
  refine k_iload_n hX (i := 1) rfl rfl dX6_removeWish_4 ?_
  refine k_callVQ (vs := [.int p1]) hX (fun _ h9 => m_X4_find hX.2.2.2.2.2.2.1 hc1 h9) (io_S hc1) rfl ml_X6_135 ⟨Nat.le_of_ble_eq_true rfl, Nat.le_of_ble_eq_true rfl⟩ rfl rfl (Nat.le_of_ble_eq_true rfl) dX6_removeWish_5 (fun q2 => ?_)
  refine k_ifnonnullQ (tgt := 13) hX dX6_removeWish_8 (by decide) (fun b3 => ?_) (fun b3 => ?_)
  · refine k_aload_n hX (i := 0) rfl rfl dX6_removeWish_13 ?_
    refine k_gets hX io_0 fl_X6_62 rfl dX6_removeWish_14 (fun c4 hc4 => ?_)
    refine k_astore_n (L' := [some (.ref (ad 0)), some (.int p1), some (.ref (ad c4))]) hX (i := 2) rfl (by decide) rfl dX6_removeWish_17 ?_
    refine k_aload_n hX (i := 2) rfl rfl dX6_removeWish_18 ?_
    refine k_aload_n hX (i := 0) rfl rfl dX6_removeWish_19 ?_
    refine k_gets hX io_0 fl_X6_59 rfl dX6_removeWish_20 (fun c5 hc5 => ?_)
    refine k_callVV (vs := [.ref (ad c5)]) hX (fun _ h9 => m_X4_copyFrom hX.2.2.2.2.2.2.1 hc4 hc5 h9) (io_S hc4) rfl ml_X6_73 ⟨Nat.le_of_ble_eq_true rfl, Nat.le_of_ble_eq_true rfl⟩ rfl rfl (Nat.le_of_ble_eq_true rfl) dX6_removeWish_23 (fun q6 => ?_)
    refine k_aload_n hX (i := 2) rfl rfl dX6_removeWish_26 ?_
    refine k_get hX (io_S hc4) fl_X6_80 rfl dX6_removeWish_27 ?_
    refine k_iload_n hX (i := 1) rfl rfl dX6_removeWish_30 ?_
    refine k_aldW hX (iq_S2 hc4) dX6_removeWish_31 (fun c7 gc7 => ?_)
    have hc7 := mlW_is hc4 gc7
    refine k_iconst (v := (nI 0)) hX rfl dX6_removeWish_32 ?_
    refine k_putz hX locC (io_W hc7) fp_X6_84 (Nat.le_of_ble_eq_true rfl) rfl dX6_removeWish_33 (fun M8 => ?_)
    refine k_aload_n hX (i := 0) rfl rfl dX6_removeWish_36 ?_
    refine k_callVV (vs := []) hX (fun _ h9 => m_X6_recordAndGoOn hX.2.2.2.2.2.2.1  h9) io_0 rfl ml_X6_110 ⟨Nat.le_of_ble_eq_true rfl, Nat.le_of_ble_eq_true rfl⟩ rfl rfl (Nat.le_of_ble_eq_true rfl) dX6_removeWish_37 (fun q9 => ?_)
    refine k_aload_n hX (i := 0) rfl rfl dX6_removeWish_40 ?_
    refine k_gets hX io_0 fl_X6_59 rfl dX6_removeWish_41 (fun c10 hc10 => ?_)
    refine k_callVI (vs := []) hX (fun _ h9 => m_X4_howManyThere hX.2.2.2.2.2.2.1 hc10 h9) (io_S hc10) rfl ml_X6_147 ⟨Nat.le_of_ble_eq_true rfl, Nat.le_of_ble_eq_true rfl⟩ rfl rfl (Nat.le_of_ble_eq_true rfl) dX6_removeWish_44 (fun q11 => ?_)
    exact k_iret hX dX6_removeWish_47
  refine k_iconst (v := (-1)) hX rfl dX6_removeWish_11 ?_
  exact k_iret hX dX6_removeWish_12
set_option maxRecDepth 100000 in
theorem m_X6_removeWish {l : Launch} {G : GL} {ad : Nat → Nat} {MM : Mem} (hAd : AdOK G ad) {p1 : Int32} {M : Mem} {r : Rv} (h : f_X6_removeWish p1 M = some r) : Ct PostI l G ad (EC G ad MM) yX6_removeWish cX6_removeWish 3 (some .int) 3 70 [.ref (ad 0), .int p1] M r := ct_of' hAd (by decide +kernel) (List.forall_mem_cons.mpr ⟨rfl, (List.forall_mem_cons.mpr ⟨rfl, (fun _ h => absurd h List.not_mem_nil)⟩)⟩) (Nat.le_of_ble_eq_true rfl) (L := [some (.ref (ad 0)), some (.int p1), none]) rfl (fun _ hX => w_X6_removeWish hX) h
set_option maxHeartbeats 4000000 in
set_option maxRecDepth 100000 in
theorem w_X6_type_23 {l : Launch} {G : GL} {ad : Nat → Nat} {MM : Mem} {X : CT} (hX : Cx l { frames := 1, cells := 0, slots := 0, locals := 21 } cX6_type RX6 2 (some .int) G ad X) : ∀ (s0 : Int32) (M : Mem) {L : List (Option Value)}, lsub [none, none] L → KF l { frames := 1, cells := 0, slots := 0, locals := 21 } 2 G ad (EC G ad MM) (QP PostI G ad (EC G ad MM)) X (f_X6_type_23 s0 M) L 23 [.int s0] M := by
  intro s0 M L hL
  unfold f_X6_type_23
  refine KF.locals (lsub_le hL) ?_
  exact k_iret hX dX6_type_23
set_option maxHeartbeats 4000000 in
set_option maxRecDepth 100000 in
theorem w_X6_type {l : Launch} {G : GL} {ad : Nat → Nat} {MM : Mem} {X : CT} (hX : Cx l { frames := 1, cells := 0, slots := 0, locals := 21 } cX6_type RX6 2 (some .int) G ad X) {p1 : Int32} {M : Mem} : KF l { frames := 1, cells := 0, slots := 0, locals := 21 } 2 G ad (EC G ad MM) (QP PostI G ad (EC G ad MM)) X (f_X6_type p1 M) [some (.ref (ad 0)), some (.int p1)] 0 [] M := by
  unfold f_X6_type
  refine k_aload_n hX (i := 0) rfl rfl dX6_type_0 ?_
  refine k_get hX io_0 fl_X6_37 rfl dX6_type_1 ?_
  refine k_iload_n hX (i := 1) rfl rfl dX6_type_4 ?_
  refine k_callVI (vs := [.int p1]) hX (fun _ h9 => m_X2_append hX.2.2.2.2.2.2.1  h9) io_22 rfl ml_X6_150 ⟨Nat.le_of_ble_eq_true rfl, Nat.le_of_ble_eq_true rfl⟩ rfl rfl (Nat.le_of_ble_eq_true rfl) dX6_type_5 (fun q1 => ?_)
  refine k_if_eq (tgt := 21) hX dX6_type_8 (by decide) (fun b2 => ?_) (fun b2 => ?_)
  · refine k_bipush (v := (-3)) hX rfl dX6_type_21 ?_
    exact w_X6_type_23 hX (-3) q1.2 trivial
  refine k_aload_n hX (i := 0) rfl rfl dX6_type_11 ?_
  refine k_get hX io_0 fl_X6_37 rfl dX6_type_12 ?_
  refine k_get hX io_22 fl_X6_154 rfl dX6_type_15 ?_
  refine k_goto (tgt := 23) hX dX6_type_18 (by decide) ?_
  exact w_X6_type_23 hX (q1.2 22 5) q1.2 trivial
set_option maxRecDepth 100000 in
theorem m_X6_type {l : Launch} {G : GL} {ad : Nat → Nat} {MM : Mem} (hAd : AdOK G ad) {p1 : Int32} {M : Mem} {r : Rv} (h : f_X6_type p1 M = some r) : Ct PostI l G ad (EC G ad MM) yX6_type cX6_type 2 (some .int) 1 21 [.ref (ad 0), .int p1] M r := ct_of' hAd (by decide +kernel) (List.forall_mem_cons.mpr ⟨rfl, (List.forall_mem_cons.mpr ⟨rfl, (fun _ h => absurd h List.not_mem_nil)⟩)⟩) (Nat.le_of_ble_eq_true rfl) (L := [some (.ref (ad 0)), some (.int p1)]) rfl (fun _ hX => w_X6_type hX) h
