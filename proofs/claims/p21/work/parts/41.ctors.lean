def gk_kind : Nat → Int32 := fun j => nI j
def gk_one : Nat → Int32 := fun _ => 1
def gk_signs : Nat → Int32 := fun j => if j < 4 then 0 else nI (2 ^ ((j - 4) % 6))
def gk_true : Nat → Int32 := fun j => if j = 1 ∨ j = 3 ∨ 10 ≤ j then 1 else 0
def gk_first : Nat → Int32 := fun j => if 10 ≤ j then 45 else llt j
theorem sl_X1_51 : SLk RX1 51 "LEAF_LETTERS" "[C" := Or.inr ⟨"TimeWishes", List.mem_of_getElem? (i := 0) (by decide +kernel)⟩
theorem fq_X1_9 : FQk RX1 9 1 0 (.array .int) true := ⟨RX1, TX1, 13, tyX1, rfl, inb_X1, by decide, tyX1_ok, nmX1, rfl, rfl, by decide +kernel, (mem_big 76 (by decide +kernel) rfl)⟩
theorem fq_X1_15 : FQk RX1 15 1 1 (.array .int) true := ⟨RX1, TX1, 13, tyX1, rfl, inb_X1, by decide, tyX1_ok, nmX1, rfl, rfl, by decide +kernel, (mem_big 80 (by decide +kernel) rfl)⟩
theorem fq_X1_18 : FQk RX1 18 1 2 (.array .int) true := ⟨RX1, TX1, 13, tyX1, rfl, inb_X1, by decide, tyX1_ok, nmX1, rfl, rfl, by decide +kernel, (mem_big 81 (by decide +kernel) rfl)⟩
theorem fq_X1_21 : FQk RX1 21 1 3 (.array .int) true := ⟨RX1, TX1, 13, tyX1, rfl, inb_X1, by decide, tyX1_ok, nmX1, rfl, rfl, by decide +kernel, (mem_big 85 (by decide +kernel) rfl)⟩
theorem fq_X1_24 : FQk RX1 24 1 4 (.array .int) true := ⟨RX1, TX1, 13, tyX1, rfl, inb_X1, by decide, tyX1_ok, nmX1, rfl, rfl, by decide +kernel, (mem_big 88 (by decide +kernel) rfl)⟩
theorem fq_X1_27 : FQk RX1 27 1 5 (.array .boolean) true := ⟨RX1, TX1, 13, tyX1, rfl, inb_X1, by decide, tyX1_ok, nmX1, rfl, rfl, by decide +kernel, (mem_big 90 (by decide +kernel) rfl)⟩
theorem fq_X1_31 : FQk RX1 31 1 6 (.array .char) true := ⟨RX1, TX1, 13, tyX1, rfl, inb_X1, by decide, tyX1_ok, nmX1, rfl, rfl, by decide +kernel, (mem_big 92 (by decide +kernel) rfl)⟩
theorem fq_X1_35 : FQk RX1 35 1 7 (.array .int) true := ⟨RX1, TX1, 13, tyX1, rfl, inb_X1, by decide, tyX1_ok, nmX1, rfl, rfl, by decide +kernel, (mem_big 93 (by decide +kernel) rfl)⟩
theorem fq_X1_38 : FQk RX1 38 1 8 (.array .int) true := ⟨RX1, TX1, 13, tyX1, rfl, inb_X1, by decide, tyX1_ok, nmX1, rfl, rfl, by decide +kernel, (mem_big 94 (by decide +kernel) rfl)⟩
theorem fq_X1_41 : FQk RX1 41 1 9 (.array .int) true := ⟨RX1, TX1, 13, tyX1, rfl, inb_X1, by decide, tyX1_ok, nmX1, rfl, rfl, by decide +kernel, (mem_big 95 (by decide +kernel) rfl)⟩
theorem fq_X1_44 : FQk RX1 44 1 10 (.array .int) true := ⟨RX1, TX1, 13, tyX1, rfl, inb_X1, by decide, tyX1_ok, nmX1, rfl, rfl, by decide +kernel, (mem_big 96 (by decide +kernel) rfl)⟩
theorem fq_X1_47 : FQk RX1 47 1 11 .int false := ⟨RX1, TX1, 13, tyX1, rfl, inb_X1, by decide, tyX1_ok, nmX1, rfl, rfl, by decide +kernel, (mem_big 97 (by decide +kernel) rfl)⟩
def foL (G : GL) (e : Nat → Nat) : va_W := [((e 0), .inr (1, [.ref (e 1), .ref (e 2), .ref (e 3), .ref (e 4), .ref (e 5), .ref (e 6), .ref (e 7), .ref (e 8), .ref (e 9), .ref (e 10), .ref (e 11), .int (nI 16), .int 0])), ((e 1), .inl (G.2.1 0, 2048, .inl (cnt gk_kind 16))), ((e 2), .inl (G.2.1 0, 2048, .inl (fun _ => 0))), ((e 3), .inl (G.2.1 0, 2048, .inl (fun _ => 0))), ((e 4), .inl (G.2.1 0, 2048, .inl (cnt gk_one 16))), ((e 5), .inl (G.2.1 0, 2048, .inl (cnt gk_signs 16))), ((e 6), .inl (G.2.1 1, 2048, .inl (cnt gk_true 16))), ((e 7), .inl (G.2.1 2, 2048, .inl (cnt gk_first 16))), ((e 8), .inl (G.2.1 0, 8192, .inl (fun _ => 0))), ((e 9), .inl (G.2.1 0, 512, .inl (fun _ => 0))), ((e 10), .inl (G.2.1 0, 2048, .inl (fun _ => 0))), ((e 11), .inl (G.2.1 0, 2048, .inl (fun _ => 0)))]
set_option maxHeartbeats 40000000 in
set_option maxRecDepth 100000 in
theorem ct_X1_init {l : Launch} {G : GL} {h0 : Nat} : CtL l G yX1_init cX1_init 2 1 12 11 27136 [.ref h0] ([(h0, .inr (1, [.null, .null, .null, .null, .null, .null, .null, .null, .null, .null, .null, .int 0, .int 0]))]) (fun w1 => ∃ e : Nat → Nat, e 0 = h0 ∧ w1 = foL G e) := by
  refine ctL_of (L := [some (.ref h0), none]) (by decide +kernel) (List.forall_mem_cons.mpr ⟨rfl, (fun _ h => absurd h List.not_mem_nil)⟩) (Nat.le_of_ble_eq_true rfl) (fun i v h => by
    match i with
    | 0 => exact (Option.some.inj h ▸ rfl)
    | j + 1 => exact absurd h (by rcases j with _ | _ | _ | _ | _ | j <;> simp)) ?_
  intro X sz hsz hX hi hr
  refine l_aload_n hX (i := 0) rfl rfl dX1_init_0 ?_
  refine l_objInit hX (mem_big 73 (by decide +kernel) rfl) (mem_big 66 (by decide +kernel) rfl) (mem_big 67 (by decide +kernel) rfl) dX1_init_1 (Nat.le_of_ble_eq_true rfl) (Nat.le_of_ble_eq_true rfl) ?_
  refine l_aload_n hX (i := 0) rfl rfl dX1_init_4 ?_
  refine l_sipush (v := (nI 2048)) hX rfl dX1_init_5 ?_
  refine l_newa (N := 2048) (t := 0) hX (mem_big 127 (by decide +kernel) rfl) rfl rfl rfl (by decide) (by decide) (Nat.le_of_ble_eq_true rfl) (Nat.le_of_ble_eq_true rfl) (Nat.le_of_ble_eq_true rfl) dX1_init_8 (fun q1 => ?_)
  refine KL.world (ws' := [(h0, .inr (1, [.null, .null, .null, .null, .null, .null, .null, .null, .null, .null, .null, .int 0, .int 0])), (q1, .inl (G.2.1 0, 2048, .inl (fun _ => 0)))]) rfl ?_
  refine l_put (ws' := [(h0, .inr (1, [.ref q1, .null, .null, .null, .null, .null, .null, .null, .null, .null, .null, .int 0, .int 0])), (q1, .inl (G.2.1 0, 2048, .inl (fun _ => 0)))]) hX 0 rfl fq_X1_9 (fun _ => hi) rfl rfl (Nat.le_of_ble_eq_true rfl) rfl dX1_init_10 ?_
  refine l_aload_n hX (i := 0) rfl rfl dX1_init_13 ?_
  refine l_sipush (v := (nI 2048)) hX rfl dX1_init_14 ?_
  refine l_newa (N := 2048) (t := 0) hX (mem_big 127 (by decide +kernel) rfl) rfl rfl rfl (by decide) (by decide) (Nat.le_of_ble_eq_true rfl) (Nat.le_of_ble_eq_true rfl) (Nat.le_of_ble_eq_true rfl) dX1_init_17 (fun q2 => ?_)
  refine KL.world (ws' := [(h0, .inr (1, [.ref q1, .null, .null, .null, .null, .null, .null, .null, .null, .null, .null, .int 0, .int 0])), (q1, .inl (G.2.1 0, 2048, .inl (fun _ => 0))), (q2, .inl (G.2.1 0, 2048, .inl (fun _ => 0)))]) rfl ?_
  refine l_put (ws' := [(h0, .inr (1, [.ref q1, .ref q2, .null, .null, .null, .null, .null, .null, .null, .null, .null, .int 0, .int 0])), (q1, .inl (G.2.1 0, 2048, .inl (fun _ => 0))), (q2, .inl (G.2.1 0, 2048, .inl (fun _ => 0)))]) hX 0 rfl fq_X1_15 (fun _ => hi) rfl rfl (Nat.le_of_ble_eq_true rfl) rfl dX1_init_19 ?_
  refine l_aload_n hX (i := 0) rfl rfl dX1_init_22 ?_
  refine l_sipush (v := (nI 2048)) hX rfl dX1_init_23 ?_
  refine l_newa (N := 2048) (t := 0) hX (mem_big 127 (by decide +kernel) rfl) rfl rfl rfl (by decide) (by decide) (Nat.le_of_ble_eq_true rfl) (Nat.le_of_ble_eq_true rfl) (Nat.le_of_ble_eq_true rfl) dX1_init_26 (fun q3 => ?_)
  refine KL.world (ws' := [(h0, .inr (1, [.ref q1, .ref q2, .null, .null, .null, .null, .null, .null, .null, .null, .null, .int 0, .int 0])), (q1, .inl (G.2.1 0, 2048, .inl (fun _ => 0))), (q2, .inl (G.2.1 0, 2048, .inl (fun _ => 0))), (q3, .inl (G.2.1 0, 2048, .inl (fun _ => 0)))]) rfl ?_
  refine l_put (ws' := [(h0, .inr (1, [.ref q1, .ref q2, .ref q3, .null, .null, .null, .null, .null, .null, .null, .null, .int 0, .int 0])), (q1, .inl (G.2.1 0, 2048, .inl (fun _ => 0))), (q2, .inl (G.2.1 0, 2048, .inl (fun _ => 0))), (q3, .inl (G.2.1 0, 2048, .inl (fun _ => 0)))]) hX 0 rfl fq_X1_18 (fun _ => hi) rfl rfl (Nat.le_of_ble_eq_true rfl) rfl dX1_init_28 ?_
  refine l_aload_n hX (i := 0) rfl rfl dX1_init_31 ?_
  refine l_sipush (v := (nI 2048)) hX rfl dX1_init_32 ?_
  refine l_newa (N := 2048) (t := 0) hX (mem_big 127 (by decide +kernel) rfl) rfl rfl rfl (by decide) (by decide) (Nat.le_of_ble_eq_true rfl) (Nat.le_of_ble_eq_true rfl) (Nat.le_of_ble_eq_true rfl) dX1_init_35 (fun q4 => ?_)
  refine KL.world (ws' := [(h0, .inr (1, [.ref q1, .ref q2, .ref q3, .null, .null, .null, .null, .null, .null, .null, .null, .int 0, .int 0])), (q1, .inl (G.2.1 0, 2048, .inl (fun _ => 0))), (q2, .inl (G.2.1 0, 2048, .inl (fun _ => 0))), (q3, .inl (G.2.1 0, 2048, .inl (fun _ => 0))), (q4, .inl (G.2.1 0, 2048, .inl (fun _ => 0)))]) rfl ?_
  refine l_put (ws' := [(h0, .inr (1, [.ref q1, .ref q2, .ref q3, .ref q4, .null, .null, .null, .null, .null, .null, .null, .int 0, .int 0])), (q1, .inl (G.2.1 0, 2048, .inl (fun _ => 0))), (q2, .inl (G.2.1 0, 2048, .inl (fun _ => 0))), (q3, .inl (G.2.1 0, 2048, .inl (fun _ => 0))), (q4, .inl (G.2.1 0, 2048, .inl (fun _ => 0)))]) hX 0 rfl fq_X1_21 (fun _ => hi) rfl rfl (Nat.le_of_ble_eq_true rfl) rfl dX1_init_37 ?_
  refine l_aload_n hX (i := 0) rfl rfl dX1_init_40 ?_
  refine l_sipush (v := (nI 2048)) hX rfl dX1_init_41 ?_
  refine l_newa (N := 2048) (t := 0) hX (mem_big 127 (by decide +kernel) rfl) rfl rfl rfl (by decide) (by decide) (Nat.le_of_ble_eq_true rfl) (Nat.le_of_ble_eq_true rfl) (Nat.le_of_ble_eq_true rfl) dX1_init_44 (fun q5 => ?_)
  refine KL.world (ws' := [(h0, .inr (1, [.ref q1, .ref q2, .ref q3, .ref q4, .null, .null, .null, .null, .null, .null, .null, .int 0, .int 0])), (q1, .inl (G.2.1 0, 2048, .inl (fun _ => 0))), (q2, .inl (G.2.1 0, 2048, .inl (fun _ => 0))), (q3, .inl (G.2.1 0, 2048, .inl (fun _ => 0))), (q4, .inl (G.2.1 0, 2048, .inl (fun _ => 0))), (q5, .inl (G.2.1 0, 2048, .inl (fun _ => 0)))]) rfl ?_
  refine l_put (ws' := [(h0, .inr (1, [.ref q1, .ref q2, .ref q3, .ref q4, .ref q5, .null, .null, .null, .null, .null, .null, .int 0, .int 0])), (q1, .inl (G.2.1 0, 2048, .inl (fun _ => 0))), (q2, .inl (G.2.1 0, 2048, .inl (fun _ => 0))), (q3, .inl (G.2.1 0, 2048, .inl (fun _ => 0))), (q4, .inl (G.2.1 0, 2048, .inl (fun _ => 0))), (q5, .inl (G.2.1 0, 2048, .inl (fun _ => 0)))]) hX 0 rfl fq_X1_24 (fun _ => hi) rfl rfl (Nat.le_of_ble_eq_true rfl) rfl dX1_init_46 ?_
  refine l_aload_n hX (i := 0) rfl rfl dX1_init_49 ?_
  refine l_sipush (v := (nI 2048)) hX rfl dX1_init_50 ?_
  refine l_newa (N := 2048) (t := 1) hX (mem_big 128 (by decide +kernel) rfl) rfl rfl rfl (by decide) (by decide) (Nat.le_of_ble_eq_true rfl) (Nat.le_of_ble_eq_true rfl) (Nat.le_of_ble_eq_true rfl) dX1_init_53 (fun q6 => ?_)
  refine KL.world (ws' := [(h0, .inr (1, [.ref q1, .ref q2, .ref q3, .ref q4, .ref q5, .null, .null, .null, .null, .null, .null, .int 0, .int 0])), (q1, .inl (G.2.1 0, 2048, .inl (fun _ => 0))), (q2, .inl (G.2.1 0, 2048, .inl (fun _ => 0))), (q3, .inl (G.2.1 0, 2048, .inl (fun _ => 0))), (q4, .inl (G.2.1 0, 2048, .inl (fun _ => 0))), (q5, .inl (G.2.1 0, 2048, .inl (fun _ => 0))), (q6, .inl (G.2.1 1, 2048, .inl (fun _ => 0)))]) rfl ?_
  refine l_put (ws' := [(h0, .inr (1, [.ref q1, .ref q2, .ref q3, .ref q4, .ref q5, .ref q6, .null, .null, .null, .null, .null, .int 0, .int 0])), (q1, .inl (G.2.1 0, 2048, .inl (fun _ => 0))), (q2, .inl (G.2.1 0, 2048, .inl (fun _ => 0))), (q3, .inl (G.2.1 0, 2048, .inl (fun _ => 0))), (q4, .inl (G.2.1 0, 2048, .inl (fun _ => 0))), (q5, .inl (G.2.1 0, 2048, .inl (fun _ => 0))), (q6, .inl (G.2.1 1, 2048, .inl (fun _ => 0)))]) hX 0 rfl fq_X1_27 (fun _ => hi) rfl rfl (Nat.le_of_ble_eq_true rfl) rfl dX1_init_55 ?_
  refine l_aload_n hX (i := 0) rfl rfl dX1_init_58 ?_
  refine l_sipush (v := (nI 2048)) hX rfl dX1_init_59 ?_
  refine l_newa (N := 2048) (t := 2) hX (mem_big 129 (by decide +kernel) rfl) rfl rfl rfl (by decide) (by decide) (Nat.le_of_ble_eq_true rfl) (Nat.le_of_ble_eq_true rfl) (Nat.le_of_ble_eq_true rfl) dX1_init_62 (fun q7 => ?_)
  refine KL.world (ws' := [(h0, .inr (1, [.ref q1, .ref q2, .ref q3, .ref q4, .ref q5, .ref q6, .null, .null, .null, .null, .null, .int 0, .int 0])), (q1, .inl (G.2.1 0, 2048, .inl (fun _ => 0))), (q2, .inl (G.2.1 0, 2048, .inl (fun _ => 0))), (q3, .inl (G.2.1 0, 2048, .inl (fun _ => 0))), (q4, .inl (G.2.1 0, 2048, .inl (fun _ => 0))), (q5, .inl (G.2.1 0, 2048, .inl (fun _ => 0))), (q6, .inl (G.2.1 1, 2048, .inl (fun _ => 0))), (q7, .inl (G.2.1 2, 2048, .inl (fun _ => 0)))]) rfl ?_
  refine l_put (ws' := [(h0, .inr (1, [.ref q1, .ref q2, .ref q3, .ref q4, .ref q5, .ref q6, .ref q7, .null, .null, .null, .null, .int 0, .int 0])), (q1, .inl (G.2.1 0, 2048, .inl (fun _ => 0))), (q2, .inl (G.2.1 0, 2048, .inl (fun _ => 0))), (q3, .inl (G.2.1 0, 2048, .inl (fun _ => 0))), (q4, .inl (G.2.1 0, 2048, .inl (fun _ => 0))), (q5, .inl (G.2.1 0, 2048, .inl (fun _ => 0))), (q6, .inl (G.2.1 1, 2048, .inl (fun _ => 0))), (q7, .inl (G.2.1 2, 2048, .inl (fun _ => 0)))]) hX 0 rfl fq_X1_31 (fun _ => hi) rfl rfl (Nat.le_of_ble_eq_true rfl) rfl dX1_init_64 ?_
  refine l_aload_n hX (i := 0) rfl rfl dX1_init_67 ?_
  refine l_sipush (v := (nI 8192)) hX rfl dX1_init_68 ?_
  refine l_newa (N := 8192) (t := 0) hX (mem_big 127 (by decide +kernel) rfl) rfl rfl rfl (by decide) (by decide) (Nat.le_of_ble_eq_true rfl) (Nat.le_of_ble_eq_true rfl) (Nat.le_of_ble_eq_true rfl) dX1_init_71 (fun q8 => ?_)
  refine KL.world (ws' := [(h0, .inr (1, [.ref q1, .ref q2, .ref q3, .ref q4, .ref q5, .ref q6, .ref q7, .null, .null, .null, .null, .int 0, .int 0])), (q1, .inl (G.2.1 0, 2048, .inl (fun _ => 0))), (q2, .inl (G.2.1 0, 2048, .inl (fun _ => 0))), (q3, .inl (G.2.1 0, 2048, .inl (fun _ => 0))), (q4, .inl (G.2.1 0, 2048, .inl (fun _ => 0))), (q5, .inl (G.2.1 0, 2048, .inl (fun _ => 0))), (q6, .inl (G.2.1 1, 2048, .inl (fun _ => 0))), (q7, .inl (G.2.1 2, 2048, .inl (fun _ => 0))), (q8, .inl (G.2.1 0, 8192, .inl (fun _ => 0)))]) rfl ?_
  refine l_put (ws' := [(h0, .inr (1, [.ref q1, .ref q2, .ref q3, .ref q4, .ref q5, .ref q6, .ref q7, .ref q8, .null, .null, .null, .int 0, .int 0])), (q1, .inl (G.2.1 0, 2048, .inl (fun _ => 0))), (q2, .inl (G.2.1 0, 2048, .inl (fun _ => 0))), (q3, .inl (G.2.1 0, 2048, .inl (fun _ => 0))), (q4, .inl (G.2.1 0, 2048, .inl (fun _ => 0))), (q5, .inl (G.2.1 0, 2048, .inl (fun _ => 0))), (q6, .inl (G.2.1 1, 2048, .inl (fun _ => 0))), (q7, .inl (G.2.1 2, 2048, .inl (fun _ => 0))), (q8, .inl (G.2.1 0, 8192, .inl (fun _ => 0)))]) hX 0 rfl fq_X1_35 (fun _ => hi) rfl rfl (Nat.le_of_ble_eq_true rfl) rfl dX1_init_73 ?_
  refine l_aload_n hX (i := 0) rfl rfl dX1_init_76 ?_
  refine l_sipush (v := (nI 512)) hX rfl dX1_init_77 ?_
  refine l_newa (N := 512) (t := 0) hX (mem_big 127 (by decide +kernel) rfl) rfl rfl rfl (by decide) (by decide) (Nat.le_of_ble_eq_true rfl) (Nat.le_of_ble_eq_true rfl) (Nat.le_of_ble_eq_true rfl) dX1_init_80 (fun q9 => ?_)
  refine KL.world (ws' := [(h0, .inr (1, [.ref q1, .ref q2, .ref q3, .ref q4, .ref q5, .ref q6, .ref q7, .ref q8, .null, .null, .null, .int 0, .int 0])), (q1, .inl (G.2.1 0, 2048, .inl (fun _ => 0))), (q2, .inl (G.2.1 0, 2048, .inl (fun _ => 0))), (q3, .inl (G.2.1 0, 2048, .inl (fun _ => 0))), (q4, .inl (G.2.1 0, 2048, .inl (fun _ => 0))), (q5, .inl (G.2.1 0, 2048, .inl (fun _ => 0))), (q6, .inl (G.2.1 1, 2048, .inl (fun _ => 0))), (q7, .inl (G.2.1 2, 2048, .inl (fun _ => 0))), (q8, .inl (G.2.1 0, 8192, .inl (fun _ => 0))), (q9, .inl (G.2.1 0, 512, .inl (fun _ => 0)))]) rfl ?_
  refine l_put (ws' := [(h0, .inr (1, [.ref q1, .ref q2, .ref q3, .ref q4, .ref q5, .ref q6, .ref q7, .ref q8, .ref q9, .null, .null, .int 0, .int 0])), (q1, .inl (G.2.1 0, 2048, .inl (fun _ => 0))), (q2, .inl (G.2.1 0, 2048, .inl (fun _ => 0))), (q3, .inl (G.2.1 0, 2048, .inl (fun _ => 0))), (q4, .inl (G.2.1 0, 2048, .inl (fun _ => 0))), (q5, .inl (G.2.1 0, 2048, .inl (fun _ => 0))), (q6, .inl (G.2.1 1, 2048, .inl (fun _ => 0))), (q7, .inl (G.2.1 2, 2048, .inl (fun _ => 0))), (q8, .inl (G.2.1 0, 8192, .inl (fun _ => 0))), (q9, .inl (G.2.1 0, 512, .inl (fun _ => 0)))]) hX 0 rfl fq_X1_38 (fun _ => hi) rfl rfl (Nat.le_of_ble_eq_true rfl) rfl dX1_init_82 ?_
  refine l_aload_n hX (i := 0) rfl rfl dX1_init_85 ?_
  refine l_sipush (v := (nI 2048)) hX rfl dX1_init_86 ?_
  refine l_newa (N := 2048) (t := 0) hX (mem_big 127 (by decide +kernel) rfl) rfl rfl rfl (by decide) (by decide) (Nat.le_of_ble_eq_true rfl) (Nat.le_of_ble_eq_true rfl) (Nat.le_of_ble_eq_true rfl) dX1_init_89 (fun q10 => ?_)
  refine KL.world (ws' := [(h0, .inr (1, [.ref q1, .ref q2, .ref q3, .ref q4, .ref q5, .ref q6, .ref q7, .ref q8, .ref q9, .null, .null, .int 0, .int 0])), (q1, .inl (G.2.1 0, 2048, .inl (fun _ => 0))), (q2, .inl (G.2.1 0, 2048, .inl (fun _ => 0))), (q3, .inl (G.2.1 0, 2048, .inl (fun _ => 0))), (q4, .inl (G.2.1 0, 2048, .inl (fun _ => 0))), (q5, .inl (G.2.1 0, 2048, .inl (fun _ => 0))), (q6, .inl (G.2.1 1, 2048, .inl (fun _ => 0))), (q7, .inl (G.2.1 2, 2048, .inl (fun _ => 0))), (q8, .inl (G.2.1 0, 8192, .inl (fun _ => 0))), (q9, .inl (G.2.1 0, 512, .inl (fun _ => 0))), (q10, .inl (G.2.1 0, 2048, .inl (fun _ => 0)))]) rfl ?_
  refine l_put (ws' := [(h0, .inr (1, [.ref q1, .ref q2, .ref q3, .ref q4, .ref q5, .ref q6, .ref q7, .ref q8, .ref q9, .ref q10, .null, .int 0, .int 0])), (q1, .inl (G.2.1 0, 2048, .inl (fun _ => 0))), (q2, .inl (G.2.1 0, 2048, .inl (fun _ => 0))), (q3, .inl (G.2.1 0, 2048, .inl (fun _ => 0))), (q4, .inl (G.2.1 0, 2048, .inl (fun _ => 0))), (q5, .inl (G.2.1 0, 2048, .inl (fun _ => 0))), (q6, .inl (G.2.1 1, 2048, .inl (fun _ => 0))), (q7, .inl (G.2.1 2, 2048, .inl (fun _ => 0))), (q8, .inl (G.2.1 0, 8192, .inl (fun _ => 0))), (q9, .inl (G.2.1 0, 512, .inl (fun _ => 0))), (q10, .inl (G.2.1 0, 2048, .inl (fun _ => 0)))]) hX 0 rfl fq_X1_41 (fun _ => hi) rfl rfl (Nat.le_of_ble_eq_true rfl) rfl dX1_init_91 ?_
  refine l_aload_n hX (i := 0) rfl rfl dX1_init_94 ?_
  refine l_sipush (v := (nI 2048)) hX rfl dX1_init_95 ?_
  refine l_newa (N := 2048) (t := 0) hX (mem_big 127 (by decide +kernel) rfl) rfl rfl rfl (by decide) (by decide) (Nat.le_of_ble_eq_true rfl) (Nat.le_of_ble_eq_true rfl) (Nat.le_of_ble_eq_true rfl) dX1_init_98 (fun q11 => ?_)
  refine KL.world (ws' := [(h0, .inr (1, [.ref q1, .ref q2, .ref q3, .ref q4, .ref q5, .ref q6, .ref q7, .ref q8, .ref q9, .ref q10, .null, .int 0, .int 0])), (q1, .inl (G.2.1 0, 2048, .inl (fun _ => 0))), (q2, .inl (G.2.1 0, 2048, .inl (fun _ => 0))), (q3, .inl (G.2.1 0, 2048, .inl (fun _ => 0))), (q4, .inl (G.2.1 0, 2048, .inl (fun _ => 0))), (q5, .inl (G.2.1 0, 2048, .inl (fun _ => 0))), (q6, .inl (G.2.1 1, 2048, .inl (fun _ => 0))), (q7, .inl (G.2.1 2, 2048, .inl (fun _ => 0))), (q8, .inl (G.2.1 0, 8192, .inl (fun _ => 0))), (q9, .inl (G.2.1 0, 512, .inl (fun _ => 0))), (q10, .inl (G.2.1 0, 2048, .inl (fun _ => 0))), (q11, .inl (G.2.1 0, 2048, .inl (fun _ => 0)))]) rfl ?_
  refine l_put (ws' := [(h0, .inr (1, [.ref q1, .ref q2, .ref q3, .ref q4, .ref q5, .ref q6, .ref q7, .ref q8, .ref q9, .ref q10, .ref q11, .int 0, .int 0])), (q1, .inl (G.2.1 0, 2048, .inl (fun _ => 0))), (q2, .inl (G.2.1 0, 2048, .inl (fun _ => 0))), (q3, .inl (G.2.1 0, 2048, .inl (fun _ => 0))), (q4, .inl (G.2.1 0, 2048, .inl (fun _ => 0))), (q5, .inl (G.2.1 0, 2048, .inl (fun _ => 0))), (q6, .inl (G.2.1 1, 2048, .inl (fun _ => 0))), (q7, .inl (G.2.1 2, 2048, .inl (fun _ => 0))), (q8, .inl (G.2.1 0, 8192, .inl (fun _ => 0))), (q9, .inl (G.2.1 0, 512, .inl (fun _ => 0))), (q10, .inl (G.2.1 0, 2048, .inl (fun _ => 0))), (q11, .inl (G.2.1 0, 2048, .inl (fun _ => 0)))]) hX 0 rfl fq_X1_44 (fun _ => hi) rfl rfl (Nat.le_of_ble_eq_true rfl) rfl dX1_init_100 ?_
  refine l_aload_n hX (i := 0) rfl rfl dX1_init_103 ?_
  refine l_bipush (v := (nI 16)) hX rfl dX1_init_104 ?_
  refine l_put (ws' := [(h0, .inr (1, [.ref q1, .ref q2, .ref q3, .ref q4, .ref q5, .ref q6, .ref q7, .ref q8, .ref q9, .ref q10, .ref q11, .int (nI 16), .int 0])), (q1, .inl (G.2.1 0, 2048, .inl (fun _ => 0))), (q2, .inl (G.2.1 0, 2048, .inl (fun _ => 0))), (q3, .inl (G.2.1 0, 2048, .inl (fun _ => 0))), (q4, .inl (G.2.1 0, 2048, .inl (fun _ => 0))), (q5, .inl (G.2.1 0, 2048, .inl (fun _ => 0))), (q6, .inl (G.2.1 1, 2048, .inl (fun _ => 0))), (q7, .inl (G.2.1 2, 2048, .inl (fun _ => 0))), (q8, .inl (G.2.1 0, 8192, .inl (fun _ => 0))), (q9, .inl (G.2.1 0, 512, .inl (fun _ => 0))), (q10, .inl (G.2.1 0, 2048, .inl (fun _ => 0))), (q11, .inl (G.2.1 0, 2048, .inl (fun _ => 0)))]) hX 0 rfl fq_X1_47 (fun h => by cases h) rfl rfl (Nat.le_of_ble_eq_true rfl) rfl dX1_init_106 ?_
  refine l_iconst (v := (nI 0)) hX rfl dX1_init_109 ?_
  refine l_istore_n (L' := [some (.ref h0), some (.int (nI 0))]) hX (i := 1) rfl (by decide) rfl dX1_init_110 ?_
  refine l_iload_n hX (i := 1) rfl rfl dX1_init_111 ?_
  refine l_bipush (v := (nI 16)) hX rfl dX1_init_112 ?_
  refine l_ge_f (tgt := 209) hX (by decide) dX1_init_114 (by decide) ?_
  refine l_aload_n hX (i := 0) rfl rfl dX1_init_117 ?_
  refine l_get hX 0 rfl fq_X1_9 rfl dX1_init_118 ?_
  refine l_iload_n hX (i := 1) rfl rfl dX1_init_121 ?_
  refine l_iload_n hX (i := 1) rfl rfl dX1_init_122 ?_
  refine l_iast (ws' := [(h0, .inr (1, [.ref q1, .ref q2, .ref q3, .ref q4, .ref q5, .ref q6, .ref q7, .ref q8, .ref q9, .ref q10, .ref q11, .int (nI 16), .int 0])), (q1, .inl (G.2.1 0, 2048, .inl (cnt gk_kind 1))), (q2, .inl (G.2.1 0, 2048, .inl (fun _ => 0))), (q3, .inl (G.2.1 0, 2048, .inl (fun _ => 0))), (q4, .inl (G.2.1 0, 2048, .inl (fun _ => 0))), (q5, .inl (G.2.1 0, 2048, .inl (fun _ => 0))), (q6, .inl (G.2.1 1, 2048, .inl (fun _ => 0))), (q7, .inl (G.2.1 2, 2048, .inl (fun _ => 0))), (q8, .inl (G.2.1 0, 8192, .inl (fun _ => 0))), (q9, .inl (G.2.1 0, 512, .inl (fun _ => 0))), (q10, .inl (G.2.1 0, 2048, .inl (fun _ => 0))), (q11, .inl (G.2.1 0, 2048, .inl (fun _ => 0)))]) hX 1 rfl (by unfold vp_in; decide) (by rw [cnt_0 (g := gk_kind)]; exact cnt_s rfl (by decide)) rfl dX1_init_123 ?_
  refine l_aload_n hX (i := 0) rfl rfl dX1_init_124 ?_
  refine l_get hX 0 rfl fq_X1_21 rfl dX1_init_125 ?_
  refine l_iload_n hX (i := 1) rfl rfl dX1_init_128 ?_
  refine l_iconst (v := (nI 1)) hX rfl dX1_init_129 ?_
  refine l_iast (ws' := [(h0, .inr (1, [.ref q1, .ref q2, .ref q3, .ref q4, .ref q5, .ref q6, .ref q7, .ref q8, .ref q9, .ref q10, .ref q11, .int (nI 16), .int 0])), (q1, .inl (G.2.1 0, 2048, .inl (cnt gk_kind 1))), (q2, .inl (G.2.1 0, 2048, .inl (fun _ => 0))), (q3, .inl (G.2.1 0, 2048, .inl (fun _ => 0))), (q4, .inl (G.2.1 0, 2048, .inl (cnt gk_one 1))), (q5, .inl (G.2.1 0, 2048, .inl (fun _ => 0))), (q6, .inl (G.2.1 1, 2048, .inl (fun _ => 0))), (q7, .inl (G.2.1 2, 2048, .inl (fun _ => 0))), (q8, .inl (G.2.1 0, 8192, .inl (fun _ => 0))), (q9, .inl (G.2.1 0, 512, .inl (fun _ => 0))), (q10, .inl (G.2.1 0, 2048, .inl (fun _ => 0))), (q11, .inl (G.2.1 0, 2048, .inl (fun _ => 0)))]) hX 4 rfl (by unfold vp_in; decide) (by rw [cnt_0 (g := gk_one)]; exact cnt_s rfl (by decide)) rfl dX1_init_130 ?_
  refine l_aload_n hX (i := 0) rfl rfl dX1_init_131 ?_
  refine l_get hX 0 rfl fq_X1_24 rfl dX1_init_132 ?_
  refine l_iload_n hX (i := 1) rfl rfl dX1_init_135 ?_
  refine l_iload_n hX (i := 1) rfl rfl dX1_init_136 ?_
  refine l_iconst (v := (nI 4)) hX rfl dX1_init_137 ?_
  refine l_ge_f (tgt := 145) hX (by decide) dX1_init_138 (by decide) ?_
  refine l_iconst (v := (nI 0)) hX rfl dX1_init_141 ?_
  refine l_goto (tgt := 153) hX dX1_init_142 (by decide) ?_
  refine l_iast (ws' := [(h0, .inr (1, [.ref q1, .ref q2, .ref q3, .ref q4, .ref q5, .ref q6, .ref q7, .ref q8, .ref q9, .ref q10, .ref q11, .int (nI 16), .int 0])), (q1, .inl (G.2.1 0, 2048, .inl (cnt gk_kind 1))), (q2, .inl (G.2.1 0, 2048, .inl (fun _ => 0))), (q3, .inl (G.2.1 0, 2048, .inl (fun _ => 0))), (q4, .inl (G.2.1 0, 2048, .inl (cnt gk_one 1))), (q5, .inl (G.2.1 0, 2048, .inl (cnt gk_signs 1))), (q6, .inl (G.2.1 1, 2048, .inl (fun _ => 0))), (q7, .inl (G.2.1 2, 2048, .inl (fun _ => 0))), (q8, .inl (G.2.1 0, 8192, .inl (fun _ => 0))), (q9, .inl (G.2.1 0, 512, .inl (fun _ => 0))), (q10, .inl (G.2.1 0, 2048, .inl (fun _ => 0))), (q11, .inl (G.2.1 0, 2048, .inl (fun _ => 0)))]) hX 5 rfl (by unfold vp_in; decide) (by rw [cnt_0 (g := gk_signs)]; exact cnt_s rfl (by decide)) rfl dX1_init_153 ?_
  refine l_aload_n hX (i := 0) rfl rfl dX1_init_154 ?_
  refine l_get hX 0 rfl fq_X1_27 rfl dX1_init_155 ?_
  refine l_iload_n hX (i := 1) rfl rfl dX1_init_158 ?_
  refine l_iload_n hX (i := 1) rfl rfl dX1_init_159 ?_
  refine l_iconst (v := (nI 1)) hX rfl dX1_init_160 ?_
  refine l_eq_f (tgt := 175) hX (by decide) dX1_init_161 (by decide) ?_
  refine l_iload_n hX (i := 1) rfl rfl dX1_init_164 ?_
  refine l_iconst (v := (nI 3)) hX rfl dX1_init_165 ?_
  refine l_eq_f (tgt := 175) hX (by decide) dX1_init_166 (by decide) ?_
  refine l_iload_n hX (i := 1) rfl rfl dX1_init_169 ?_
  refine l_bipush (v := (nI 10)) hX rfl dX1_init_170 ?_
  refine l_lt_t (tgt := 179) hX (by decide) dX1_init_172 (by decide) ?_
  refine l_iconst (v := (nI 0)) hX rfl dX1_init_179 ?_
  refine l_zast (ws' := [(h0, .inr (1, [.ref q1, .ref q2, .ref q3, .ref q4, .ref q5, .ref q6, .ref q7, .ref q8, .ref q9, .ref q10, .ref q11, .int (nI 16), .int 0])), (q1, .inl (G.2.1 0, 2048, .inl (cnt gk_kind 1))), (q2, .inl (G.2.1 0, 2048, .inl (fun _ => 0))), (q3, .inl (G.2.1 0, 2048, .inl (fun _ => 0))), (q4, .inl (G.2.1 0, 2048, .inl (cnt gk_one 1))), (q5, .inl (G.2.1 0, 2048, .inl (cnt gk_signs 1))), (q6, .inl (G.2.1 1, 2048, .inl (cnt gk_true 1))), (q7, .inl (G.2.1 2, 2048, .inl (fun _ => 0))), (q8, .inl (G.2.1 0, 8192, .inl (fun _ => 0))), (q9, .inl (G.2.1 0, 512, .inl (fun _ => 0))), (q10, .inl (G.2.1 0, 2048, .inl (fun _ => 0))), (q11, .inl (G.2.1 0, 2048, .inl (fun _ => 0)))]) hX 6 rfl (by unfold vp_in; decide) (by rw [cnt_0 (g := gk_true)]; exact cnt_s rfl (by decide)) rfl dX1_init_180 ?_
  refine l_aload_n hX (i := 0) rfl rfl dX1_init_181 ?_
  refine l_get hX 0 rfl fq_X1_31 rfl dX1_init_182 ?_
  refine l_iload_n hX (i := 1) rfl rfl dX1_init_185 ?_
  refine l_iload_n hX (i := 1) rfl rfl dX1_init_186 ?_
  refine l_bipush (v := (nI 10)) hX rfl dX1_init_187 ?_
  refine l_lt_t (tgt := 197) hX (by decide) dX1_init_189 (by decide) ?_
  refine l_getll hX sl_X1_51 dX1_init_197 ?_
  refine l_iload_n hX (i := 1) rfl rfl dX1_init_200 ?_
  refine l_caldll (v := 48) hX (by unfold vp_in; decide) (by decide) dX1_init_201 ?_
  refine l_cast (ws' := [(h0, .inr (1, [.ref q1, .ref q2, .ref q3, .ref q4, .ref q5, .ref q6, .ref q7, .ref q8, .ref q9, .ref q10, .ref q11, .int (nI 16), .int 0])), (q1, .inl (G.2.1 0, 2048, .inl (cnt gk_kind 1))), (q2, .inl (G.2.1 0, 2048, .inl (fun _ => 0))), (q3, .inl (G.2.1 0, 2048, .inl (fun _ => 0))), (q4, .inl (G.2.1 0, 2048, .inl (cnt gk_one 1))), (q5, .inl (G.2.1 0, 2048, .inl (cnt gk_signs 1))), (q6, .inl (G.2.1 1, 2048, .inl (cnt gk_true 1))), (q7, .inl (G.2.1 2, 2048, .inl (cnt gk_first 1))), (q8, .inl (G.2.1 0, 8192, .inl (fun _ => 0))), (q9, .inl (G.2.1 0, 512, .inl (fun _ => 0))), (q10, .inl (G.2.1 0, 2048, .inl (fun _ => 0))), (q11, .inl (G.2.1 0, 2048, .inl (fun _ => 0)))]) hX 7 rfl (by unfold vp_in; decide) (by rw [cnt_0 (g := gk_first)]; exact cnt_s rfl (by decide)) rfl dX1_init_202 ?_
  refine l_iinc (v := (nI 1)) (L' := [some (.ref h0), some (.int (nI 1))]) hX (i := 1) rfl (by decide) (by decide) rfl dX1_init_203 ?_
  refine l_goto (tgt := 111) hX dX1_init_206 (by decide) ?_
  refine l_iload_n hX (i := 1) rfl rfl dX1_init_111 ?_
  refine l_bipush (v := (nI 16)) hX rfl dX1_init_112 ?_
  refine l_ge_f (tgt := 209) hX (by decide) dX1_init_114 (by decide) ?_
  refine l_aload_n hX (i := 0) rfl rfl dX1_init_117 ?_
  refine l_get hX 0 rfl fq_X1_9 rfl dX1_init_118 ?_
  refine l_iload_n hX (i := 1) rfl rfl dX1_init_121 ?_
  refine l_iload_n hX (i := 1) rfl rfl dX1_init_122 ?_
  refine l_iast (ws' := [(h0, .inr (1, [.ref q1, .ref q2, .ref q3, .ref q4, .ref q5, .ref q6, .ref q7, .ref q8, .ref q9, .ref q10, .ref q11, .int (nI 16), .int 0])), (q1, .inl (G.2.1 0, 2048, .inl (cnt gk_kind 2))), (q2, .inl (G.2.1 0, 2048, .inl (fun _ => 0))), (q3, .inl (G.2.1 0, 2048, .inl (fun _ => 0))), (q4, .inl (G.2.1 0, 2048, .inl (cnt gk_one 1))), (q5, .inl (G.2.1 0, 2048, .inl (cnt gk_signs 1))), (q6, .inl (G.2.1 1, 2048, .inl (cnt gk_true 1))), (q7, .inl (G.2.1 2, 2048, .inl (cnt gk_first 1))), (q8, .inl (G.2.1 0, 8192, .inl (fun _ => 0))), (q9, .inl (G.2.1 0, 512, .inl (fun _ => 0))), (q10, .inl (G.2.1 0, 2048, .inl (fun _ => 0))), (q11, .inl (G.2.1 0, 2048, .inl (fun _ => 0)))]) hX 1 rfl (by unfold vp_in; decide) (cnt_s rfl (by decide)) rfl dX1_init_123 ?_
  refine l_aload_n hX (i := 0) rfl rfl dX1_init_124 ?_
  refine l_get hX 0 rfl fq_X1_21 rfl dX1_init_125 ?_
  refine l_iload_n hX (i := 1) rfl rfl dX1_init_128 ?_
  refine l_iconst (v := (nI 1)) hX rfl dX1_init_129 ?_
  refine l_iast (ws' := [(h0, .inr (1, [.ref q1, .ref q2, .ref q3, .ref q4, .ref q5, .ref q6, .ref q7, .ref q8, .ref q9, .ref q10, .ref q11, .int (nI 16), .int 0])), (q1, .inl (G.2.1 0, 2048, .inl (cnt gk_kind 2))), (q2, .inl (G.2.1 0, 2048, .inl (fun _ => 0))), (q3, .inl (G.2.1 0, 2048, .inl (fun _ => 0))), (q4, .inl (G.2.1 0, 2048, .inl (cnt gk_one 2))), (q5, .inl (G.2.1 0, 2048, .inl (cnt gk_signs 1))), (q6, .inl (G.2.1 1, 2048, .inl (cnt gk_true 1))), (q7, .inl (G.2.1 2, 2048, .inl (cnt gk_first 1))), (q8, .inl (G.2.1 0, 8192, .inl (fun _ => 0))), (q9, .inl (G.2.1 0, 512, .inl (fun _ => 0))), (q10, .inl (G.2.1 0, 2048, .inl (fun _ => 0))), (q11, .inl (G.2.1 0, 2048, .inl (fun _ => 0)))]) hX 4 rfl (by unfold vp_in; decide) (cnt_s rfl (by decide)) rfl dX1_init_130 ?_
  refine l_aload_n hX (i := 0) rfl rfl dX1_init_131 ?_
  refine l_get hX 0 rfl fq_X1_24 rfl dX1_init_132 ?_
  refine l_iload_n hX (i := 1) rfl rfl dX1_init_135 ?_
  refine l_iload_n hX (i := 1) rfl rfl dX1_init_136 ?_
  refine l_iconst (v := (nI 4)) hX rfl dX1_init_137 ?_
  refine l_ge_f (tgt := 145) hX (by decide) dX1_init_138 (by decide) ?_
  refine l_iconst (v := (nI 0)) hX rfl dX1_init_141 ?_
  refine l_goto (tgt := 153) hX dX1_init_142 (by decide) ?_
  refine l_iast (ws' := [(h0, .inr (1, [.ref q1, .ref q2, .ref q3, .ref q4, .ref q5, .ref q6, .ref q7, .ref q8, .ref q9, .ref q10, .ref q11, .int (nI 16), .int 0])), (q1, .inl (G.2.1 0, 2048, .inl (cnt gk_kind 2))), (q2, .inl (G.2.1 0, 2048, .inl (fun _ => 0))), (q3, .inl (G.2.1 0, 2048, .inl (fun _ => 0))), (q4, .inl (G.2.1 0, 2048, .inl (cnt gk_one 2))), (q5, .inl (G.2.1 0, 2048, .inl (cnt gk_signs 2))), (q6, .inl (G.2.1 1, 2048, .inl (cnt gk_true 1))), (q7, .inl (G.2.1 2, 2048, .inl (cnt gk_first 1))), (q8, .inl (G.2.1 0, 8192, .inl (fun _ => 0))), (q9, .inl (G.2.1 0, 512, .inl (fun _ => 0))), (q10, .inl (G.2.1 0, 2048, .inl (fun _ => 0))), (q11, .inl (G.2.1 0, 2048, .inl (fun _ => 0)))]) hX 5 rfl (by unfold vp_in; decide) (cnt_s rfl (by decide)) rfl dX1_init_153 ?_
  refine l_aload_n hX (i := 0) rfl rfl dX1_init_154 ?_
  refine l_get hX 0 rfl fq_X1_27 rfl dX1_init_155 ?_
  refine l_iload_n hX (i := 1) rfl rfl dX1_init_158 ?_
  refine l_iload_n hX (i := 1) rfl rfl dX1_init_159 ?_
  refine l_iconst (v := (nI 1)) hX rfl dX1_init_160 ?_
  refine l_eq_t (tgt := 175) hX (by decide) dX1_init_161 (by decide) ?_
  refine l_iconst (v := (nI 1)) hX rfl dX1_init_175 ?_
  refine l_goto (tgt := 180) hX dX1_init_176 (by decide) ?_
  refine l_zast (ws' := [(h0, .inr (1, [.ref q1, .ref q2, .ref q3, .ref q4, .ref q5, .ref q6, .ref q7, .ref q8, .ref q9, .ref q10, .ref q11, .int (nI 16), .int 0])), (q1, .inl (G.2.1 0, 2048, .inl (cnt gk_kind 2))), (q2, .inl (G.2.1 0, 2048, .inl (fun _ => 0))), (q3, .inl (G.2.1 0, 2048, .inl (fun _ => 0))), (q4, .inl (G.2.1 0, 2048, .inl (cnt gk_one 2))), (q5, .inl (G.2.1 0, 2048, .inl (cnt gk_signs 2))), (q6, .inl (G.2.1 1, 2048, .inl (cnt gk_true 2))), (q7, .inl (G.2.1 2, 2048, .inl (cnt gk_first 1))), (q8, .inl (G.2.1 0, 8192, .inl (fun _ => 0))), (q9, .inl (G.2.1 0, 512, .inl (fun _ => 0))), (q10, .inl (G.2.1 0, 2048, .inl (fun _ => 0))), (q11, .inl (G.2.1 0, 2048, .inl (fun _ => 0)))]) hX 6 rfl (by unfold vp_in; decide) (cnt_s rfl (by decide)) rfl dX1_init_180 ?_
  refine l_aload_n hX (i := 0) rfl rfl dX1_init_181 ?_
  refine l_get hX 0 rfl fq_X1_31 rfl dX1_init_182 ?_
  refine l_iload_n hX (i := 1) rfl rfl dX1_init_185 ?_
  refine l_iload_n hX (i := 1) rfl rfl dX1_init_186 ?_
  refine l_bipush (v := (nI 10)) hX rfl dX1_init_187 ?_
  refine l_lt_t (tgt := 197) hX (by decide) dX1_init_189 (by decide) ?_
  refine l_getll hX sl_X1_51 dX1_init_197 ?_
  refine l_iload_n hX (i := 1) rfl rfl dX1_init_200 ?_
  refine l_caldll (v := 49) hX (by unfold vp_in; decide) (by decide) dX1_init_201 ?_
  refine l_cast (ws' := [(h0, .inr (1, [.ref q1, .ref q2, .ref q3, .ref q4, .ref q5, .ref q6, .ref q7, .ref q8, .ref q9, .ref q10, .ref q11, .int (nI 16), .int 0])), (q1, .inl (G.2.1 0, 2048, .inl (cnt gk_kind 2))), (q2, .inl (G.2.1 0, 2048, .inl (fun _ => 0))), (q3, .inl (G.2.1 0, 2048, .inl (fun _ => 0))), (q4, .inl (G.2.1 0, 2048, .inl (cnt gk_one 2))), (q5, .inl (G.2.1 0, 2048, .inl (cnt gk_signs 2))), (q6, .inl (G.2.1 1, 2048, .inl (cnt gk_true 2))), (q7, .inl (G.2.1 2, 2048, .inl (cnt gk_first 2))), (q8, .inl (G.2.1 0, 8192, .inl (fun _ => 0))), (q9, .inl (G.2.1 0, 512, .inl (fun _ => 0))), (q10, .inl (G.2.1 0, 2048, .inl (fun _ => 0))), (q11, .inl (G.2.1 0, 2048, .inl (fun _ => 0)))]) hX 7 rfl (by unfold vp_in; decide) (cnt_s rfl (by decide)) rfl dX1_init_202 ?_
  refine l_iinc (v := (nI 2)) (L' := [some (.ref h0), some (.int (nI 2))]) hX (i := 1) rfl (by decide) (by decide) rfl dX1_init_203 ?_
  refine l_goto (tgt := 111) hX dX1_init_206 (by decide) ?_
  refine l_iload_n hX (i := 1) rfl rfl dX1_init_111 ?_
  refine l_bipush (v := (nI 16)) hX rfl dX1_init_112 ?_
  refine l_ge_f (tgt := 209) hX (by decide) dX1_init_114 (by decide) ?_
  refine l_aload_n hX (i := 0) rfl rfl dX1_init_117 ?_
  refine l_get hX 0 rfl fq_X1_9 rfl dX1_init_118 ?_
  refine l_iload_n hX (i := 1) rfl rfl dX1_init_121 ?_
  refine l_iload_n hX (i := 1) rfl rfl dX1_init_122 ?_
  refine l_iast (ws' := [(h0, .inr (1, [.ref q1, .ref q2, .ref q3, .ref q4, .ref q5, .ref q6, .ref q7, .ref q8, .ref q9, .ref q10, .ref q11, .int (nI 16), .int 0])), (q1, .inl (G.2.1 0, 2048, .inl (cnt gk_kind 3))), (q2, .inl (G.2.1 0, 2048, .inl (fun _ => 0))), (q3, .inl (G.2.1 0, 2048, .inl (fun _ => 0))), (q4, .inl (G.2.1 0, 2048, .inl (cnt gk_one 2))), (q5, .inl (G.2.1 0, 2048, .inl (cnt gk_signs 2))), (q6, .inl (G.2.1 1, 2048, .inl (cnt gk_true 2))), (q7, .inl (G.2.1 2, 2048, .inl (cnt gk_first 2))), (q8, .inl (G.2.1 0, 8192, .inl (fun _ => 0))), (q9, .inl (G.2.1 0, 512, .inl (fun _ => 0))), (q10, .inl (G.2.1 0, 2048, .inl (fun _ => 0))), (q11, .inl (G.2.1 0, 2048, .inl (fun _ => 0)))]) hX 1 rfl (by unfold vp_in; decide) (cnt_s rfl (by decide)) rfl dX1_init_123 ?_
  refine l_aload_n hX (i := 0) rfl rfl dX1_init_124 ?_
  refine l_get hX 0 rfl fq_X1_21 rfl dX1_init_125 ?_
  refine l_iload_n hX (i := 1) rfl rfl dX1_init_128 ?_
  refine l_iconst (v := (nI 1)) hX rfl dX1_init_129 ?_
  refine l_iast (ws' := [(h0, .inr (1, [.ref q1, .ref q2, .ref q3, .ref q4, .ref q5, .ref q6, .ref q7, .ref q8, .ref q9, .ref q10, .ref q11, .int (nI 16), .int 0])), (q1, .inl (G.2.1 0, 2048, .inl (cnt gk_kind 3))), (q2, .inl (G.2.1 0, 2048, .inl (fun _ => 0))), (q3, .inl (G.2.1 0, 2048, .inl (fun _ => 0))), (q4, .inl (G.2.1 0, 2048, .inl (cnt gk_one 3))), (q5, .inl (G.2.1 0, 2048, .inl (cnt gk_signs 2))), (q6, .inl (G.2.1 1, 2048, .inl (cnt gk_true 2))), (q7, .inl (G.2.1 2, 2048, .inl (cnt gk_first 2))), (q8, .inl (G.2.1 0, 8192, .inl (fun _ => 0))), (q9, .inl (G.2.1 0, 512, .inl (fun _ => 0))), (q10, .inl (G.2.1 0, 2048, .inl (fun _ => 0))), (q11, .inl (G.2.1 0, 2048, .inl (fun _ => 0)))]) hX 4 rfl (by unfold vp_in; decide) (cnt_s rfl (by decide)) rfl dX1_init_130 ?_
  refine l_aload_n hX (i := 0) rfl rfl dX1_init_131 ?_
  refine l_get hX 0 rfl fq_X1_24 rfl dX1_init_132 ?_
  refine l_iload_n hX (i := 1) rfl rfl dX1_init_135 ?_
  refine l_iload_n hX (i := 1) rfl rfl dX1_init_136 ?_
  refine l_iconst (v := (nI 4)) hX rfl dX1_init_137 ?_
  refine l_ge_f (tgt := 145) hX (by decide) dX1_init_138 (by decide) ?_
  refine l_iconst (v := (nI 0)) hX rfl dX1_init_141 ?_
  refine l_goto (tgt := 153) hX dX1_init_142 (by decide) ?_
  refine l_iast (ws' := [(h0, .inr (1, [.ref q1, .ref q2, .ref q3, .ref q4, .ref q5, .ref q6, .ref q7, .ref q8, .ref q9, .ref q10, .ref q11, .int (nI 16), .int 0])), (q1, .inl (G.2.1 0, 2048, .inl (cnt gk_kind 3))), (q2, .inl (G.2.1 0, 2048, .inl (fun _ => 0))), (q3, .inl (G.2.1 0, 2048, .inl (fun _ => 0))), (q4, .inl (G.2.1 0, 2048, .inl (cnt gk_one 3))), (q5, .inl (G.2.1 0, 2048, .inl (cnt gk_signs 3))), (q6, .inl (G.2.1 1, 2048, .inl (cnt gk_true 2))), (q7, .inl (G.2.1 2, 2048, .inl (cnt gk_first 2))), (q8, .inl (G.2.1 0, 8192, .inl (fun _ => 0))), (q9, .inl (G.2.1 0, 512, .inl (fun _ => 0))), (q10, .inl (G.2.1 0, 2048, .inl (fun _ => 0))), (q11, .inl (G.2.1 0, 2048, .inl (fun _ => 0)))]) hX 5 rfl (by unfold vp_in; decide) (cnt_s rfl (by decide)) rfl dX1_init_153 ?_
  refine l_aload_n hX (i := 0) rfl rfl dX1_init_154 ?_
  refine l_get hX 0 rfl fq_X1_27 rfl dX1_init_155 ?_
  refine l_iload_n hX (i := 1) rfl rfl dX1_init_158 ?_
  refine l_iload_n hX (i := 1) rfl rfl dX1_init_159 ?_
  refine l_iconst (v := (nI 1)) hX rfl dX1_init_160 ?_
  refine l_eq_f (tgt := 175) hX (by decide) dX1_init_161 (by decide) ?_
  refine l_iload_n hX (i := 1) rfl rfl dX1_init_164 ?_
  refine l_iconst (v := (nI 3)) hX rfl dX1_init_165 ?_
  refine l_eq_f (tgt := 175) hX (by decide) dX1_init_166 (by decide) ?_
  refine l_iload_n hX (i := 1) rfl rfl dX1_init_169 ?_
  refine l_bipush (v := (nI 10)) hX rfl dX1_init_170 ?_
  refine l_lt_t (tgt := 179) hX (by decide) dX1_init_172 (by decide) ?_
  refine l_iconst (v := (nI 0)) hX rfl dX1_init_179 ?_
  refine l_zast (ws' := [(h0, .inr (1, [.ref q1, .ref q2, .ref q3, .ref q4, .ref q5, .ref q6, .ref q7, .ref q8, .ref q9, .ref q10, .ref q11, .int (nI 16), .int 0])), (q1, .inl (G.2.1 0, 2048, .inl (cnt gk_kind 3))), (q2, .inl (G.2.1 0, 2048, .inl (fun _ => 0))), (q3, .inl (G.2.1 0, 2048, .inl (fun _ => 0))), (q4, .inl (G.2.1 0, 2048, .inl (cnt gk_one 3))), (q5, .inl (G.2.1 0, 2048, .inl (cnt gk_signs 3))), (q6, .inl (G.2.1 1, 2048, .inl (cnt gk_true 3))), (q7, .inl (G.2.1 2, 2048, .inl (cnt gk_first 2))), (q8, .inl (G.2.1 0, 8192, .inl (fun _ => 0))), (q9, .inl (G.2.1 0, 512, .inl (fun _ => 0))), (q10, .inl (G.2.1 0, 2048, .inl (fun _ => 0))), (q11, .inl (G.2.1 0, 2048, .inl (fun _ => 0)))]) hX 6 rfl (by unfold vp_in; decide) (cnt_s rfl (by decide)) rfl dX1_init_180 ?_
  refine l_aload_n hX (i := 0) rfl rfl dX1_init_181 ?_
  refine l_get hX 0 rfl fq_X1_31 rfl dX1_init_182 ?_
  refine l_iload_n hX (i := 1) rfl rfl dX1_init_185 ?_
  refine l_iload_n hX (i := 1) rfl rfl dX1_init_186 ?_
  refine l_bipush (v := (nI 10)) hX rfl dX1_init_187 ?_
  refine l_lt_t (tgt := 197) hX (by decide) dX1_init_189 (by decide) ?_
  refine l_getll hX sl_X1_51 dX1_init_197 ?_
  refine l_iload_n hX (i := 1) rfl rfl dX1_init_200 ?_
  refine l_caldll (v := 62) hX (by unfold vp_in; decide) (by decide) dX1_init_201 ?_
  refine l_cast (ws' := [(h0, .inr (1, [.ref q1, .ref q2, .ref q3, .ref q4, .ref q5, .ref q6, .ref q7, .ref q8, .ref q9, .ref q10, .ref q11, .int (nI 16), .int 0])), (q1, .inl (G.2.1 0, 2048, .inl (cnt gk_kind 3))), (q2, .inl (G.2.1 0, 2048, .inl (fun _ => 0))), (q3, .inl (G.2.1 0, 2048, .inl (fun _ => 0))), (q4, .inl (G.2.1 0, 2048, .inl (cnt gk_one 3))), (q5, .inl (G.2.1 0, 2048, .inl (cnt gk_signs 3))), (q6, .inl (G.2.1 1, 2048, .inl (cnt gk_true 3))), (q7, .inl (G.2.1 2, 2048, .inl (cnt gk_first 3))), (q8, .inl (G.2.1 0, 8192, .inl (fun _ => 0))), (q9, .inl (G.2.1 0, 512, .inl (fun _ => 0))), (q10, .inl (G.2.1 0, 2048, .inl (fun _ => 0))), (q11, .inl (G.2.1 0, 2048, .inl (fun _ => 0)))]) hX 7 rfl (by unfold vp_in; decide) (cnt_s rfl (by decide)) rfl dX1_init_202 ?_
  refine l_iinc (v := (nI 3)) (L' := [some (.ref h0), some (.int (nI 3))]) hX (i := 1) rfl (by decide) (by decide) rfl dX1_init_203 ?_
  refine l_goto (tgt := 111) hX dX1_init_206 (by decide) ?_
  refine l_iload_n hX (i := 1) rfl rfl dX1_init_111 ?_
  refine l_bipush (v := (nI 16)) hX rfl dX1_init_112 ?_
  refine l_ge_f (tgt := 209) hX (by decide) dX1_init_114 (by decide) ?_
  refine l_aload_n hX (i := 0) rfl rfl dX1_init_117 ?_
  refine l_get hX 0 rfl fq_X1_9 rfl dX1_init_118 ?_
  refine l_iload_n hX (i := 1) rfl rfl dX1_init_121 ?_
  refine l_iload_n hX (i := 1) rfl rfl dX1_init_122 ?_
  refine l_iast (ws' := [(h0, .inr (1, [.ref q1, .ref q2, .ref q3, .ref q4, .ref q5, .ref q6, .ref q7, .ref q8, .ref q9, .ref q10, .ref q11, .int (nI 16), .int 0])), (q1, .inl (G.2.1 0, 2048, .inl (cnt gk_kind 4))), (q2, .inl (G.2.1 0, 2048, .inl (fun _ => 0))), (q3, .inl (G.2.1 0, 2048, .inl (fun _ => 0))), (q4, .inl (G.2.1 0, 2048, .inl (cnt gk_one 3))), (q5, .inl (G.2.1 0, 2048, .inl (cnt gk_signs 3))), (q6, .inl (G.2.1 1, 2048, .inl (cnt gk_true 3))), (q7, .inl (G.2.1 2, 2048, .inl (cnt gk_first 3))), (q8, .inl (G.2.1 0, 8192, .inl (fun _ => 0))), (q9, .inl (G.2.1 0, 512, .inl (fun _ => 0))), (q10, .inl (G.2.1 0, 2048, .inl (fun _ => 0))), (q11, .inl (G.2.1 0, 2048, .inl (fun _ => 0)))]) hX 1 rfl (by unfold vp_in; decide) (cnt_s rfl (by decide)) rfl dX1_init_123 ?_
  refine l_aload_n hX (i := 0) rfl rfl dX1_init_124 ?_
  refine l_get hX 0 rfl fq_X1_21 rfl dX1_init_125 ?_
  refine l_iload_n hX (i := 1) rfl rfl dX1_init_128 ?_
  refine l_iconst (v := (nI 1)) hX rfl dX1_init_129 ?_
  refine l_iast (ws' := [(h0, .inr (1, [.ref q1, .ref q2, .ref q3, .ref q4, .ref q5, .ref q6, .ref q7, .ref q8, .ref q9, .ref q10, .ref q11, .int (nI 16), .int 0])), (q1, .inl (G.2.1 0, 2048, .inl (cnt gk_kind 4))), (q2, .inl (G.2.1 0, 2048, .inl (fun _ => 0))), (q3, .inl (G.2.1 0, 2048, .inl (fun _ => 0))), (q4, .inl (G.2.1 0, 2048, .inl (cnt gk_one 4))), (q5, .inl (G.2.1 0, 2048, .inl (cnt gk_signs 3))), (q6, .inl (G.2.1 1, 2048, .inl (cnt gk_true 3))), (q7, .inl (G.2.1 2, 2048, .inl (cnt gk_first 3))), (q8, .inl (G.2.1 0, 8192, .inl (fun _ => 0))), (q9, .inl (G.2.1 0, 512, .inl (fun _ => 0))), (q10, .inl (G.2.1 0, 2048, .inl (fun _ => 0))), (q11, .inl (G.2.1 0, 2048, .inl (fun _ => 0)))]) hX 4 rfl (by unfold vp_in; decide) (cnt_s rfl (by decide)) rfl dX1_init_130 ?_
  refine l_aload_n hX (i := 0) rfl rfl dX1_init_131 ?_
  refine l_get hX 0 rfl fq_X1_24 rfl dX1_init_132 ?_
  refine l_iload_n hX (i := 1) rfl rfl dX1_init_135 ?_
  refine l_iload_n hX (i := 1) rfl rfl dX1_init_136 ?_
  refine l_iconst (v := (nI 4)) hX rfl dX1_init_137 ?_
  refine l_ge_f (tgt := 145) hX (by decide) dX1_init_138 (by decide) ?_
  refine l_iconst (v := (nI 0)) hX rfl dX1_init_141 ?_
  refine l_goto (tgt := 153) hX dX1_init_142 (by decide) ?_
  refine l_iast (ws' := [(h0, .inr (1, [.ref q1, .ref q2, .ref q3, .ref q4, .ref q5, .ref q6, .ref q7, .ref q8, .ref q9, .ref q10, .ref q11, .int (nI 16), .int 0])), (q1, .inl (G.2.1 0, 2048, .inl (cnt gk_kind 4))), (q2, .inl (G.2.1 0, 2048, .inl (fun _ => 0))), (q3, .inl (G.2.1 0, 2048, .inl (fun _ => 0))), (q4, .inl (G.2.1 0, 2048, .inl (cnt gk_one 4))), (q5, .inl (G.2.1 0, 2048, .inl (cnt gk_signs 4))), (q6, .inl (G.2.1 1, 2048, .inl (cnt gk_true 3))), (q7, .inl (G.2.1 2, 2048, .inl (cnt gk_first 3))), (q8, .inl (G.2.1 0, 8192, .inl (fun _ => 0))), (q9, .inl (G.2.1 0, 512, .inl (fun _ => 0))), (q10, .inl (G.2.1 0, 2048, .inl (fun _ => 0))), (q11, .inl (G.2.1 0, 2048, .inl (fun _ => 0)))]) hX 5 rfl (by unfold vp_in; decide) (cnt_s rfl (by decide)) rfl dX1_init_153 ?_
  refine l_aload_n hX (i := 0) rfl rfl dX1_init_154 ?_
  refine l_get hX 0 rfl fq_X1_27 rfl dX1_init_155 ?_
  refine l_iload_n hX (i := 1) rfl rfl dX1_init_158 ?_
  refine l_iload_n hX (i := 1) rfl rfl dX1_init_159 ?_
  refine l_iconst (v := (nI 1)) hX rfl dX1_init_160 ?_
  refine l_eq_f (tgt := 175) hX (by decide) dX1_init_161 (by decide) ?_
  refine l_iload_n hX (i := 1) rfl rfl dX1_init_164 ?_
  refine l_iconst (v := (nI 3)) hX rfl dX1_init_165 ?_
  refine l_eq_t (tgt := 175) hX (by decide) dX1_init_166 (by decide) ?_
  refine l_iconst (v := (nI 1)) hX rfl dX1_init_175 ?_
  refine l_goto (tgt := 180) hX dX1_init_176 (by decide) ?_
  refine l_zast (ws' := [(h0, .inr (1, [.ref q1, .ref q2, .ref q3, .ref q4, .ref q5, .ref q6, .ref q7, .ref q8, .ref q9, .ref q10, .ref q11, .int (nI 16), .int 0])), (q1, .inl (G.2.1 0, 2048, .inl (cnt gk_kind 4))), (q2, .inl (G.2.1 0, 2048, .inl (fun _ => 0))), (q3, .inl (G.2.1 0, 2048, .inl (fun _ => 0))), (q4, .inl (G.2.1 0, 2048, .inl (cnt gk_one 4))), (q5, .inl (G.2.1 0, 2048, .inl (cnt gk_signs 4))), (q6, .inl (G.2.1 1, 2048, .inl (cnt gk_true 4))), (q7, .inl (G.2.1 2, 2048, .inl (cnt gk_first 3))), (q8, .inl (G.2.1 0, 8192, .inl (fun _ => 0))), (q9, .inl (G.2.1 0, 512, .inl (fun _ => 0))), (q10, .inl (G.2.1 0, 2048, .inl (fun _ => 0))), (q11, .inl (G.2.1 0, 2048, .inl (fun _ => 0)))]) hX 6 rfl (by unfold vp_in; decide) (cnt_s rfl (by decide)) rfl dX1_init_180 ?_
  refine l_aload_n hX (i := 0) rfl rfl dX1_init_181 ?_
  refine l_get hX 0 rfl fq_X1_31 rfl dX1_init_182 ?_
  refine l_iload_n hX (i := 1) rfl rfl dX1_init_185 ?_
  refine l_iload_n hX (i := 1) rfl rfl dX1_init_186 ?_
  refine l_bipush (v := (nI 10)) hX rfl dX1_init_187 ?_
  refine l_lt_t (tgt := 197) hX (by decide) dX1_init_189 (by decide) ?_
  refine l_getll hX sl_X1_51 dX1_init_197 ?_
  refine l_iload_n hX (i := 1) rfl rfl dX1_init_200 ?_
  refine l_caldll (v := 46) hX (by unfold vp_in; decide) (by decide) dX1_init_201 ?_
  refine l_cast (ws' := [(h0, .inr (1, [.ref q1, .ref q2, .ref q3, .ref q4, .ref q5, .ref q6, .ref q7, .ref q8, .ref q9, .ref q10, .ref q11, .int (nI 16), .int 0])), (q1, .inl (G.2.1 0, 2048, .inl (cnt gk_kind 4))), (q2, .inl (G.2.1 0, 2048, .inl (fun _ => 0))), (q3, .inl (G.2.1 0, 2048, .inl (fun _ => 0))), (q4, .inl (G.2.1 0, 2048, .inl (cnt gk_one 4))), (q5, .inl (G.2.1 0, 2048, .inl (cnt gk_signs 4))), (q6, .inl (G.2.1 1, 2048, .inl (cnt gk_true 4))), (q7, .inl (G.2.1 2, 2048, .inl (cnt gk_first 4))), (q8, .inl (G.2.1 0, 8192, .inl (fun _ => 0))), (q9, .inl (G.2.1 0, 512, .inl (fun _ => 0))), (q10, .inl (G.2.1 0, 2048, .inl (fun _ => 0))), (q11, .inl (G.2.1 0, 2048, .inl (fun _ => 0)))]) hX 7 rfl (by unfold vp_in; decide) (cnt_s rfl (by decide)) rfl dX1_init_202 ?_
  refine l_iinc (v := (nI 4)) (L' := [some (.ref h0), some (.int (nI 4))]) hX (i := 1) rfl (by decide) (by decide) rfl dX1_init_203 ?_
  refine l_goto (tgt := 111) hX dX1_init_206 (by decide) ?_
  refine l_iload_n hX (i := 1) rfl rfl dX1_init_111 ?_
  refine l_bipush (v := (nI 16)) hX rfl dX1_init_112 ?_
  refine l_ge_f (tgt := 209) hX (by decide) dX1_init_114 (by decide) ?_
  refine l_aload_n hX (i := 0) rfl rfl dX1_init_117 ?_
  refine l_get hX 0 rfl fq_X1_9 rfl dX1_init_118 ?_
  refine l_iload_n hX (i := 1) rfl rfl dX1_init_121 ?_
  refine l_iload_n hX (i := 1) rfl rfl dX1_init_122 ?_
  refine l_iast (ws' := [(h0, .inr (1, [.ref q1, .ref q2, .ref q3, .ref q4, .ref q5, .ref q6, .ref q7, .ref q8, .ref q9, .ref q10, .ref q11, .int (nI 16), .int 0])), (q1, .inl (G.2.1 0, 2048, .inl (cnt gk_kind 5))), (q2, .inl (G.2.1 0, 2048, .inl (fun _ => 0))), (q3, .inl (G.2.1 0, 2048, .inl (fun _ => 0))), (q4, .inl (G.2.1 0, 2048, .inl (cnt gk_one 4))), (q5, .inl (G.2.1 0, 2048, .inl (cnt gk_signs 4))), (q6, .inl (G.2.1 1, 2048, .inl (cnt gk_true 4))), (q7, .inl (G.2.1 2, 2048, .inl (cnt gk_first 4))), (q8, .inl (G.2.1 0, 8192, .inl (fun _ => 0))), (q9, .inl (G.2.1 0, 512, .inl (fun _ => 0))), (q10, .inl (G.2.1 0, 2048, .inl (fun _ => 0))), (q11, .inl (G.2.1 0, 2048, .inl (fun _ => 0)))]) hX 1 rfl (by unfold vp_in; decide) (cnt_s rfl (by decide)) rfl dX1_init_123 ?_
  refine l_aload_n hX (i := 0) rfl rfl dX1_init_124 ?_
  refine l_get hX 0 rfl fq_X1_21 rfl dX1_init_125 ?_
  refine l_iload_n hX (i := 1) rfl rfl dX1_init_128 ?_
  refine l_iconst (v := (nI 1)) hX rfl dX1_init_129 ?_
  refine l_iast (ws' := [(h0, .inr (1, [.ref q1, .ref q2, .ref q3, .ref q4, .ref q5, .ref q6, .ref q7, .ref q8, .ref q9, .ref q10, .ref q11, .int (nI 16), .int 0])), (q1, .inl (G.2.1 0, 2048, .inl (cnt gk_kind 5))), (q2, .inl (G.2.1 0, 2048, .inl (fun _ => 0))), (q3, .inl (G.2.1 0, 2048, .inl (fun _ => 0))), (q4, .inl (G.2.1 0, 2048, .inl (cnt gk_one 5))), (q5, .inl (G.2.1 0, 2048, .inl (cnt gk_signs 4))), (q6, .inl (G.2.1 1, 2048, .inl (cnt gk_true 4))), (q7, .inl (G.2.1 2, 2048, .inl (cnt gk_first 4))), (q8, .inl (G.2.1 0, 8192, .inl (fun _ => 0))), (q9, .inl (G.2.1 0, 512, .inl (fun _ => 0))), (q10, .inl (G.2.1 0, 2048, .inl (fun _ => 0))), (q11, .inl (G.2.1 0, 2048, .inl (fun _ => 0)))]) hX 4 rfl (by unfold vp_in; decide) (cnt_s rfl (by decide)) rfl dX1_init_130 ?_
  refine l_aload_n hX (i := 0) rfl rfl dX1_init_131 ?_
  refine l_get hX 0 rfl fq_X1_24 rfl dX1_init_132 ?_
  refine l_iload_n hX (i := 1) rfl rfl dX1_init_135 ?_
  refine l_iload_n hX (i := 1) rfl rfl dX1_init_136 ?_
  refine l_iconst (v := (nI 4)) hX rfl dX1_init_137 ?_
  refine l_ge_t (tgt := 145) hX (by decide) dX1_init_138 (by decide) ?_
  refine l_iconst (v := (nI 1)) hX rfl dX1_init_145 ?_
  refine l_iload_n hX (i := 1) rfl rfl dX1_init_146 ?_
  refine l_iconst (v := (nI 4)) hX rfl dX1_init_147 ?_
  refine l_isub (v := (nI 0)) hX (by decide) dX1_init_148 ?_
  refine l_bipush (v := (nI 6)) hX rfl dX1_init_149 ?_
  refine l_irem (v := (nI 0)) hX (by decide) (by decide) dX1_init_151 ?_
  refine l_ishl (v := (nI 1)) hX (by decide) dX1_init_152 ?_
  refine l_iast (ws' := [(h0, .inr (1, [.ref q1, .ref q2, .ref q3, .ref q4, .ref q5, .ref q6, .ref q7, .ref q8, .ref q9, .ref q10, .ref q11, .int (nI 16), .int 0])), (q1, .inl (G.2.1 0, 2048, .inl (cnt gk_kind 5))), (q2, .inl (G.2.1 0, 2048, .inl (fun _ => 0))), (q3, .inl (G.2.1 0, 2048, .inl (fun _ => 0))), (q4, .inl (G.2.1 0, 2048, .inl (cnt gk_one 5))), (q5, .inl (G.2.1 0, 2048, .inl (cnt gk_signs 5))), (q6, .inl (G.2.1 1, 2048, .inl (cnt gk_true 4))), (q7, .inl (G.2.1 2, 2048, .inl (cnt gk_first 4))), (q8, .inl (G.2.1 0, 8192, .inl (fun _ => 0))), (q9, .inl (G.2.1 0, 512, .inl (fun _ => 0))), (q10, .inl (G.2.1 0, 2048, .inl (fun _ => 0))), (q11, .inl (G.2.1 0, 2048, .inl (fun _ => 0)))]) hX 5 rfl (by unfold vp_in; decide) (cnt_s rfl (by decide)) rfl dX1_init_153 ?_
  refine l_aload_n hX (i := 0) rfl rfl dX1_init_154 ?_
  refine l_get hX 0 rfl fq_X1_27 rfl dX1_init_155 ?_
  refine l_iload_n hX (i := 1) rfl rfl dX1_init_158 ?_
  refine l_iload_n hX (i := 1) rfl rfl dX1_init_159 ?_
  refine l_iconst (v := (nI 1)) hX rfl dX1_init_160 ?_
  refine l_eq_f (tgt := 175) hX (by decide) dX1_init_161 (by decide) ?_
  refine l_iload_n hX (i := 1) rfl rfl dX1_init_164 ?_
  refine l_iconst (v := (nI 3)) hX rfl dX1_init_165 ?_
  refine l_eq_f (tgt := 175) hX (by decide) dX1_init_166 (by decide) ?_
  refine l_iload_n hX (i := 1) rfl rfl dX1_init_169 ?_
  refine l_bipush (v := (nI 10)) hX rfl dX1_init_170 ?_
  refine l_lt_t (tgt := 179) hX (by decide) dX1_init_172 (by decide) ?_
  refine l_iconst (v := (nI 0)) hX rfl dX1_init_179 ?_
  refine l_zast (ws' := [(h0, .inr (1, [.ref q1, .ref q2, .ref q3, .ref q4, .ref q5, .ref q6, .ref q7, .ref q8, .ref q9, .ref q10, .ref q11, .int (nI 16), .int 0])), (q1, .inl (G.2.1 0, 2048, .inl (cnt gk_kind 5))), (q2, .inl (G.2.1 0, 2048, .inl (fun _ => 0))), (q3, .inl (G.2.1 0, 2048, .inl (fun _ => 0))), (q4, .inl (G.2.1 0, 2048, .inl (cnt gk_one 5))), (q5, .inl (G.2.1 0, 2048, .inl (cnt gk_signs 5))), (q6, .inl (G.2.1 1, 2048, .inl (cnt gk_true 5))), (q7, .inl (G.2.1 2, 2048, .inl (cnt gk_first 4))), (q8, .inl (G.2.1 0, 8192, .inl (fun _ => 0))), (q9, .inl (G.2.1 0, 512, .inl (fun _ => 0))), (q10, .inl (G.2.1 0, 2048, .inl (fun _ => 0))), (q11, .inl (G.2.1 0, 2048, .inl (fun _ => 0)))]) hX 6 rfl (by unfold vp_in; decide) (cnt_s rfl (by decide)) rfl dX1_init_180 ?_
  refine l_aload_n hX (i := 0) rfl rfl dX1_init_181 ?_
  refine l_get hX 0 rfl fq_X1_31 rfl dX1_init_182 ?_
  refine l_iload_n hX (i := 1) rfl rfl dX1_init_185 ?_
  refine l_iload_n hX (i := 1) rfl rfl dX1_init_186 ?_
  refine l_bipush (v := (nI 10)) hX rfl dX1_init_187 ?_
  refine l_lt_t (tgt := 197) hX (by decide) dX1_init_189 (by decide) ?_
  refine l_getll hX sl_X1_51 dX1_init_197 ?_
  refine l_iload_n hX (i := 1) rfl rfl dX1_init_200 ?_
  refine l_caldll (v := 97) hX (by unfold vp_in; decide) (by decide) dX1_init_201 ?_
  refine l_cast (ws' := [(h0, .inr (1, [.ref q1, .ref q2, .ref q3, .ref q4, .ref q5, .ref q6, .ref q7, .ref q8, .ref q9, .ref q10, .ref q11, .int (nI 16), .int 0])), (q1, .inl (G.2.1 0, 2048, .inl (cnt gk_kind 5))), (q2, .inl (G.2.1 0, 2048, .inl (fun _ => 0))), (q3, .inl (G.2.1 0, 2048, .inl (fun _ => 0))), (q4, .inl (G.2.1 0, 2048, .inl (cnt gk_one 5))), (q5, .inl (G.2.1 0, 2048, .inl (cnt gk_signs 5))), (q6, .inl (G.2.1 1, 2048, .inl (cnt gk_true 5))), (q7, .inl (G.2.1 2, 2048, .inl (cnt gk_first 5))), (q8, .inl (G.2.1 0, 8192, .inl (fun _ => 0))), (q9, .inl (G.2.1 0, 512, .inl (fun _ => 0))), (q10, .inl (G.2.1 0, 2048, .inl (fun _ => 0))), (q11, .inl (G.2.1 0, 2048, .inl (fun _ => 0)))]) hX 7 rfl (by unfold vp_in; decide) (cnt_s rfl (by decide)) rfl dX1_init_202 ?_
  refine l_iinc (v := (nI 5)) (L' := [some (.ref h0), some (.int (nI 5))]) hX (i := 1) rfl (by decide) (by decide) rfl dX1_init_203 ?_
  refine l_goto (tgt := 111) hX dX1_init_206 (by decide) ?_
  refine l_iload_n hX (i := 1) rfl rfl dX1_init_111 ?_
  refine l_bipush (v := (nI 16)) hX rfl dX1_init_112 ?_
  refine l_ge_f (tgt := 209) hX (by decide) dX1_init_114 (by decide) ?_
  refine l_aload_n hX (i := 0) rfl rfl dX1_init_117 ?_
  refine l_get hX 0 rfl fq_X1_9 rfl dX1_init_118 ?_
  refine l_iload_n hX (i := 1) rfl rfl dX1_init_121 ?_
  refine l_iload_n hX (i := 1) rfl rfl dX1_init_122 ?_
  refine l_iast (ws' := [(h0, .inr (1, [.ref q1, .ref q2, .ref q3, .ref q4, .ref q5, .ref q6, .ref q7, .ref q8, .ref q9, .ref q10, .ref q11, .int (nI 16), .int 0])), (q1, .inl (G.2.1 0, 2048, .inl (cnt gk_kind 6))), (q2, .inl (G.2.1 0, 2048, .inl (fun _ => 0))), (q3, .inl (G.2.1 0, 2048, .inl (fun _ => 0))), (q4, .inl (G.2.1 0, 2048, .inl (cnt gk_one 5))), (q5, .inl (G.2.1 0, 2048, .inl (cnt gk_signs 5))), (q6, .inl (G.2.1 1, 2048, .inl (cnt gk_true 5))), (q7, .inl (G.2.1 2, 2048, .inl (cnt gk_first 5))), (q8, .inl (G.2.1 0, 8192, .inl (fun _ => 0))), (q9, .inl (G.2.1 0, 512, .inl (fun _ => 0))), (q10, .inl (G.2.1 0, 2048, .inl (fun _ => 0))), (q11, .inl (G.2.1 0, 2048, .inl (fun _ => 0)))]) hX 1 rfl (by unfold vp_in; decide) (cnt_s rfl (by decide)) rfl dX1_init_123 ?_
  refine l_aload_n hX (i := 0) rfl rfl dX1_init_124 ?_
  refine l_get hX 0 rfl fq_X1_21 rfl dX1_init_125 ?_
  refine l_iload_n hX (i := 1) rfl rfl dX1_init_128 ?_
  refine l_iconst (v := (nI 1)) hX rfl dX1_init_129 ?_
  refine l_iast (ws' := [(h0, .inr (1, [.ref q1, .ref q2, .ref q3, .ref q4, .ref q5, .ref q6, .ref q7, .ref q8, .ref q9, .ref q10, .ref q11, .int (nI 16), .int 0])), (q1, .inl (G.2.1 0, 2048, .inl (cnt gk_kind 6))), (q2, .inl (G.2.1 0, 2048, .inl (fun _ => 0))), (q3, .inl (G.2.1 0, 2048, .inl (fun _ => 0))), (q4, .inl (G.2.1 0, 2048, .inl (cnt gk_one 6))), (q5, .inl (G.2.1 0, 2048, .inl (cnt gk_signs 5))), (q6, .inl (G.2.1 1, 2048, .inl (cnt gk_true 5))), (q7, .inl (G.2.1 2, 2048, .inl (cnt gk_first 5))), (q8, .inl (G.2.1 0, 8192, .inl (fun _ => 0))), (q9, .inl (G.2.1 0, 512, .inl (fun _ => 0))), (q10, .inl (G.2.1 0, 2048, .inl (fun _ => 0))), (q11, .inl (G.2.1 0, 2048, .inl (fun _ => 0)))]) hX 4 rfl (by unfold vp_in; decide) (cnt_s rfl (by decide)) rfl dX1_init_130 ?_
  refine l_aload_n hX (i := 0) rfl rfl dX1_init_131 ?_
  refine l_get hX 0 rfl fq_X1_24 rfl dX1_init_132 ?_
  refine l_iload_n hX (i := 1) rfl rfl dX1_init_135 ?_
  refine l_iload_n hX (i := 1) rfl rfl dX1_init_136 ?_
  refine l_iconst (v := (nI 4)) hX rfl dX1_init_137 ?_
  refine l_ge_t (tgt := 145) hX (by decide) dX1_init_138 (by decide) ?_
  refine l_iconst (v := (nI 1)) hX rfl dX1_init_145 ?_
  refine l_iload_n hX (i := 1) rfl rfl dX1_init_146 ?_
  refine l_iconst (v := (nI 4)) hX rfl dX1_init_147 ?_
  refine l_isub (v := (nI 1)) hX (by decide) dX1_init_148 ?_
  refine l_bipush (v := (nI 6)) hX rfl dX1_init_149 ?_
  refine l_irem (v := (nI 1)) hX (by decide) (by decide) dX1_init_151 ?_
  refine l_ishl (v := (nI 2)) hX (by decide) dX1_init_152 ?_
  refine l_iast (ws' := [(h0, .inr (1, [.ref q1, .ref q2, .ref q3, .ref q4, .ref q5, .ref q6, .ref q7, .ref q8, .ref q9, .ref q10, .ref q11, .int (nI 16), .int 0])), (q1, .inl (G.2.1 0, 2048, .inl (cnt gk_kind 6))), (q2, .inl (G.2.1 0, 2048, .inl (fun _ => 0))), (q3, .inl (G.2.1 0, 2048, .inl (fun _ => 0))), (q4, .inl (G.2.1 0, 2048, .inl (cnt gk_one 6))), (q5, .inl (G.2.1 0, 2048, .inl (cnt gk_signs 6))), (q6, .inl (G.2.1 1, 2048, .inl (cnt gk_true 5))), (q7, .inl (G.2.1 2, 2048, .inl (cnt gk_first 5))), (q8, .inl (G.2.1 0, 8192, .inl (fun _ => 0))), (q9, .inl (G.2.1 0, 512, .inl (fun _ => 0))), (q10, .inl (G.2.1 0, 2048, .inl (fun _ => 0))), (q11, .inl (G.2.1 0, 2048, .inl (fun _ => 0)))]) hX 5 rfl (by unfold vp_in; decide) (cnt_s rfl (by decide)) rfl dX1_init_153 ?_
  refine l_aload_n hX (i := 0) rfl rfl dX1_init_154 ?_
  refine l_get hX 0 rfl fq_X1_27 rfl dX1_init_155 ?_
  refine l_iload_n hX (i := 1) rfl rfl dX1_init_158 ?_
  refine l_iload_n hX (i := 1) rfl rfl dX1_init_159 ?_
  refine l_iconst (v := (nI 1)) hX rfl dX1_init_160 ?_
  refine l_eq_f (tgt := 175) hX (by decide) dX1_init_161 (by decide) ?_
  refine l_iload_n hX (i := 1) rfl rfl dX1_init_164 ?_
  refine l_iconst (v := (nI 3)) hX rfl dX1_init_165 ?_
  refine l_eq_f (tgt := 175) hX (by decide) dX1_init_166 (by decide) ?_
  refine l_iload_n hX (i := 1) rfl rfl dX1_init_169 ?_
  refine l_bipush (v := (nI 10)) hX rfl dX1_init_170 ?_
  refine l_lt_t (tgt := 179) hX (by decide) dX1_init_172 (by decide) ?_
  refine l_iconst (v := (nI 0)) hX rfl dX1_init_179 ?_
  refine l_zast (ws' := [(h0, .inr (1, [.ref q1, .ref q2, .ref q3, .ref q4, .ref q5, .ref q6, .ref q7, .ref q8, .ref q9, .ref q10, .ref q11, .int (nI 16), .int 0])), (q1, .inl (G.2.1 0, 2048, .inl (cnt gk_kind 6))), (q2, .inl (G.2.1 0, 2048, .inl (fun _ => 0))), (q3, .inl (G.2.1 0, 2048, .inl (fun _ => 0))), (q4, .inl (G.2.1 0, 2048, .inl (cnt gk_one 6))), (q5, .inl (G.2.1 0, 2048, .inl (cnt gk_signs 6))), (q6, .inl (G.2.1 1, 2048, .inl (cnt gk_true 6))), (q7, .inl (G.2.1 2, 2048, .inl (cnt gk_first 5))), (q8, .inl (G.2.1 0, 8192, .inl (fun _ => 0))), (q9, .inl (G.2.1 0, 512, .inl (fun _ => 0))), (q10, .inl (G.2.1 0, 2048, .inl (fun _ => 0))), (q11, .inl (G.2.1 0, 2048, .inl (fun _ => 0)))]) hX 6 rfl (by unfold vp_in; decide) (cnt_s rfl (by decide)) rfl dX1_init_180 ?_
  refine l_aload_n hX (i := 0) rfl rfl dX1_init_181 ?_
  refine l_get hX 0 rfl fq_X1_31 rfl dX1_init_182 ?_
  refine l_iload_n hX (i := 1) rfl rfl dX1_init_185 ?_
  refine l_iload_n hX (i := 1) rfl rfl dX1_init_186 ?_
  refine l_bipush (v := (nI 10)) hX rfl dX1_init_187 ?_
  refine l_lt_t (tgt := 197) hX (by decide) dX1_init_189 (by decide) ?_
  refine l_getll hX sl_X1_51 dX1_init_197 ?_
  refine l_iload_n hX (i := 1) rfl rfl dX1_init_200 ?_
  refine l_caldll (v := 98) hX (by unfold vp_in; decide) (by decide) dX1_init_201 ?_
  refine l_cast (ws' := [(h0, .inr (1, [.ref q1, .ref q2, .ref q3, .ref q4, .ref q5, .ref q6, .ref q7, .ref q8, .ref q9, .ref q10, .ref q11, .int (nI 16), .int 0])), (q1, .inl (G.2.1 0, 2048, .inl (cnt gk_kind 6))), (q2, .inl (G.2.1 0, 2048, .inl (fun _ => 0))), (q3, .inl (G.2.1 0, 2048, .inl (fun _ => 0))), (q4, .inl (G.2.1 0, 2048, .inl (cnt gk_one 6))), (q5, .inl (G.2.1 0, 2048, .inl (cnt gk_signs 6))), (q6, .inl (G.2.1 1, 2048, .inl (cnt gk_true 6))), (q7, .inl (G.2.1 2, 2048, .inl (cnt gk_first 6))), (q8, .inl (G.2.1 0, 8192, .inl (fun _ => 0))), (q9, .inl (G.2.1 0, 512, .inl (fun _ => 0))), (q10, .inl (G.2.1 0, 2048, .inl (fun _ => 0))), (q11, .inl (G.2.1 0, 2048, .inl (fun _ => 0)))]) hX 7 rfl (by unfold vp_in; decide) (cnt_s rfl (by decide)) rfl dX1_init_202 ?_
  refine l_iinc (v := (nI 6)) (L' := [some (.ref h0), some (.int (nI 6))]) hX (i := 1) rfl (by decide) (by decide) rfl dX1_init_203 ?_
  refine l_goto (tgt := 111) hX dX1_init_206 (by decide) ?_
  refine l_iload_n hX (i := 1) rfl rfl dX1_init_111 ?_
  refine l_bipush (v := (nI 16)) hX rfl dX1_init_112 ?_
  refine l_ge_f (tgt := 209) hX (by decide) dX1_init_114 (by decide) ?_
  refine l_aload_n hX (i := 0) rfl rfl dX1_init_117 ?_
  refine l_get hX 0 rfl fq_X1_9 rfl dX1_init_118 ?_
  refine l_iload_n hX (i := 1) rfl rfl dX1_init_121 ?_
  refine l_iload_n hX (i := 1) rfl rfl dX1_init_122 ?_
  refine l_iast (ws' := [(h0, .inr (1, [.ref q1, .ref q2, .ref q3, .ref q4, .ref q5, .ref q6, .ref q7, .ref q8, .ref q9, .ref q10, .ref q11, .int (nI 16), .int 0])), (q1, .inl (G.2.1 0, 2048, .inl (cnt gk_kind 7))), (q2, .inl (G.2.1 0, 2048, .inl (fun _ => 0))), (q3, .inl (G.2.1 0, 2048, .inl (fun _ => 0))), (q4, .inl (G.2.1 0, 2048, .inl (cnt gk_one 6))), (q5, .inl (G.2.1 0, 2048, .inl (cnt gk_signs 6))), (q6, .inl (G.2.1 1, 2048, .inl (cnt gk_true 6))), (q7, .inl (G.2.1 2, 2048, .inl (cnt gk_first 6))), (q8, .inl (G.2.1 0, 8192, .inl (fun _ => 0))), (q9, .inl (G.2.1 0, 512, .inl (fun _ => 0))), (q10, .inl (G.2.1 0, 2048, .inl (fun _ => 0))), (q11, .inl (G.2.1 0, 2048, .inl (fun _ => 0)))]) hX 1 rfl (by unfold vp_in; decide) (cnt_s rfl (by decide)) rfl dX1_init_123 ?_
  refine l_aload_n hX (i := 0) rfl rfl dX1_init_124 ?_
  refine l_get hX 0 rfl fq_X1_21 rfl dX1_init_125 ?_
  refine l_iload_n hX (i := 1) rfl rfl dX1_init_128 ?_
  refine l_iconst (v := (nI 1)) hX rfl dX1_init_129 ?_
  refine l_iast (ws' := [(h0, .inr (1, [.ref q1, .ref q2, .ref q3, .ref q4, .ref q5, .ref q6, .ref q7, .ref q8, .ref q9, .ref q10, .ref q11, .int (nI 16), .int 0])), (q1, .inl (G.2.1 0, 2048, .inl (cnt gk_kind 7))), (q2, .inl (G.2.1 0, 2048, .inl (fun _ => 0))), (q3, .inl (G.2.1 0, 2048, .inl (fun _ => 0))), (q4, .inl (G.2.1 0, 2048, .inl (cnt gk_one 7))), (q5, .inl (G.2.1 0, 2048, .inl (cnt gk_signs 6))), (q6, .inl (G.2.1 1, 2048, .inl (cnt gk_true 6))), (q7, .inl (G.2.1 2, 2048, .inl (cnt gk_first 6))), (q8, .inl (G.2.1 0, 8192, .inl (fun _ => 0))), (q9, .inl (G.2.1 0, 512, .inl (fun _ => 0))), (q10, .inl (G.2.1 0, 2048, .inl (fun _ => 0))), (q11, .inl (G.2.1 0, 2048, .inl (fun _ => 0)))]) hX 4 rfl (by unfold vp_in; decide) (cnt_s rfl (by decide)) rfl dX1_init_130 ?_
  refine l_aload_n hX (i := 0) rfl rfl dX1_init_131 ?_
  refine l_get hX 0 rfl fq_X1_24 rfl dX1_init_132 ?_
  refine l_iload_n hX (i := 1) rfl rfl dX1_init_135 ?_
  refine l_iload_n hX (i := 1) rfl rfl dX1_init_136 ?_
  refine l_iconst (v := (nI 4)) hX rfl dX1_init_137 ?_
  refine l_ge_t (tgt := 145) hX (by decide) dX1_init_138 (by decide) ?_
  refine l_iconst (v := (nI 1)) hX rfl dX1_init_145 ?_
  refine l_iload_n hX (i := 1) rfl rfl dX1_init_146 ?_
  refine l_iconst (v := (nI 4)) hX rfl dX1_init_147 ?_
  refine l_isub (v := (nI 2)) hX (by decide) dX1_init_148 ?_
  refine l_bipush (v := (nI 6)) hX rfl dX1_init_149 ?_
  refine l_irem (v := (nI 2)) hX (by decide) (by decide) dX1_init_151 ?_
  refine l_ishl (v := (nI 4)) hX (by decide) dX1_init_152 ?_
  refine l_iast (ws' := [(h0, .inr (1, [.ref q1, .ref q2, .ref q3, .ref q4, .ref q5, .ref q6, .ref q7, .ref q8, .ref q9, .ref q10, .ref q11, .int (nI 16), .int 0])), (q1, .inl (G.2.1 0, 2048, .inl (cnt gk_kind 7))), (q2, .inl (G.2.1 0, 2048, .inl (fun _ => 0))), (q3, .inl (G.2.1 0, 2048, .inl (fun _ => 0))), (q4, .inl (G.2.1 0, 2048, .inl (cnt gk_one 7))), (q5, .inl (G.2.1 0, 2048, .inl (cnt gk_signs 7))), (q6, .inl (G.2.1 1, 2048, .inl (cnt gk_true 6))), (q7, .inl (G.2.1 2, 2048, .inl (cnt gk_first 6))), (q8, .inl (G.2.1 0, 8192, .inl (fun _ => 0))), (q9, .inl (G.2.1 0, 512, .inl (fun _ => 0))), (q10, .inl (G.2.1 0, 2048, .inl (fun _ => 0))), (q11, .inl (G.2.1 0, 2048, .inl (fun _ => 0)))]) hX 5 rfl (by unfold vp_in; decide) (cnt_s rfl (by decide)) rfl dX1_init_153 ?_
  refine l_aload_n hX (i := 0) rfl rfl dX1_init_154 ?_
  refine l_get hX 0 rfl fq_X1_27 rfl dX1_init_155 ?_
  refine l_iload_n hX (i := 1) rfl rfl dX1_init_158 ?_
  refine l_iload_n hX (i := 1) rfl rfl dX1_init_159 ?_
  refine l_iconst (v := (nI 1)) hX rfl dX1_init_160 ?_
  refine l_eq_f (tgt := 175) hX (by decide) dX1_init_161 (by decide) ?_
  refine l_iload_n hX (i := 1) rfl rfl dX1_init_164 ?_
  refine l_iconst (v := (nI 3)) hX rfl dX1_init_165 ?_
  refine l_eq_f (tgt := 175) hX (by decide) dX1_init_166 (by decide) ?_
  refine l_iload_n hX (i := 1) rfl rfl dX1_init_169 ?_
  refine l_bipush (v := (nI 10)) hX rfl dX1_init_170 ?_
  refine l_lt_t (tgt := 179) hX (by decide) dX1_init_172 (by decide) ?_
  refine l_iconst (v := (nI 0)) hX rfl dX1_init_179 ?_
  refine l_zast (ws' := [(h0, .inr (1, [.ref q1, .ref q2, .ref q3, .ref q4, .ref q5, .ref q6, .ref q7, .ref q8, .ref q9, .ref q10, .ref q11, .int (nI 16), .int 0])), (q1, .inl (G.2.1 0, 2048, .inl (cnt gk_kind 7))), (q2, .inl (G.2.1 0, 2048, .inl (fun _ => 0))), (q3, .inl (G.2.1 0, 2048, .inl (fun _ => 0))), (q4, .inl (G.2.1 0, 2048, .inl (cnt gk_one 7))), (q5, .inl (G.2.1 0, 2048, .inl (cnt gk_signs 7))), (q6, .inl (G.2.1 1, 2048, .inl (cnt gk_true 7))), (q7, .inl (G.2.1 2, 2048, .inl (cnt gk_first 6))), (q8, .inl (G.2.1 0, 8192, .inl (fun _ => 0))), (q9, .inl (G.2.1 0, 512, .inl (fun _ => 0))), (q10, .inl (G.2.1 0, 2048, .inl (fun _ => 0))), (q11, .inl (G.2.1 0, 2048, .inl (fun _ => 0)))]) hX 6 rfl (by unfold vp_in; decide) (cnt_s rfl (by decide)) rfl dX1_init_180 ?_
  refine l_aload_n hX (i := 0) rfl rfl dX1_init_181 ?_
  refine l_get hX 0 rfl fq_X1_31 rfl dX1_init_182 ?_
  refine l_iload_n hX (i := 1) rfl rfl dX1_init_185 ?_
  refine l_iload_n hX (i := 1) rfl rfl dX1_init_186 ?_
  refine l_bipush (v := (nI 10)) hX rfl dX1_init_187 ?_
  refine l_lt_t (tgt := 197) hX (by decide) dX1_init_189 (by decide) ?_
  refine l_getll hX sl_X1_51 dX1_init_197 ?_
  refine l_iload_n hX (i := 1) rfl rfl dX1_init_200 ?_
  refine l_caldll (v := 99) hX (by unfold vp_in; decide) (by decide) dX1_init_201 ?_
  refine l_cast (ws' := [(h0, .inr (1, [.ref q1, .ref q2, .ref q3, .ref q4, .ref q5, .ref q6, .ref q7, .ref q8, .ref q9, .ref q10, .ref q11, .int (nI 16), .int 0])), (q1, .inl (G.2.1 0, 2048, .inl (cnt gk_kind 7))), (q2, .inl (G.2.1 0, 2048, .inl (fun _ => 0))), (q3, .inl (G.2.1 0, 2048, .inl (fun _ => 0))), (q4, .inl (G.2.1 0, 2048, .inl (cnt gk_one 7))), (q5, .inl (G.2.1 0, 2048, .inl (cnt gk_signs 7))), (q6, .inl (G.2.1 1, 2048, .inl (cnt gk_true 7))), (q7, .inl (G.2.1 2, 2048, .inl (cnt gk_first 7))), (q8, .inl (G.2.1 0, 8192, .inl (fun _ => 0))), (q9, .inl (G.2.1 0, 512, .inl (fun _ => 0))), (q10, .inl (G.2.1 0, 2048, .inl (fun _ => 0))), (q11, .inl (G.2.1 0, 2048, .inl (fun _ => 0)))]) hX 7 rfl (by unfold vp_in; decide) (cnt_s rfl (by decide)) rfl dX1_init_202 ?_
  refine l_iinc (v := (nI 7)) (L' := [some (.ref h0), some (.int (nI 7))]) hX (i := 1) rfl (by decide) (by decide) rfl dX1_init_203 ?_
  refine l_goto (tgt := 111) hX dX1_init_206 (by decide) ?_
  refine l_iload_n hX (i := 1) rfl rfl dX1_init_111 ?_
  refine l_bipush (v := (nI 16)) hX rfl dX1_init_112 ?_
  refine l_ge_f (tgt := 209) hX (by decide) dX1_init_114 (by decide) ?_
  refine l_aload_n hX (i := 0) rfl rfl dX1_init_117 ?_
  refine l_get hX 0 rfl fq_X1_9 rfl dX1_init_118 ?_
  refine l_iload_n hX (i := 1) rfl rfl dX1_init_121 ?_
  refine l_iload_n hX (i := 1) rfl rfl dX1_init_122 ?_
  refine l_iast (ws' := [(h0, .inr (1, [.ref q1, .ref q2, .ref q3, .ref q4, .ref q5, .ref q6, .ref q7, .ref q8, .ref q9, .ref q10, .ref q11, .int (nI 16), .int 0])), (q1, .inl (G.2.1 0, 2048, .inl (cnt gk_kind 8))), (q2, .inl (G.2.1 0, 2048, .inl (fun _ => 0))), (q3, .inl (G.2.1 0, 2048, .inl (fun _ => 0))), (q4, .inl (G.2.1 0, 2048, .inl (cnt gk_one 7))), (q5, .inl (G.2.1 0, 2048, .inl (cnt gk_signs 7))), (q6, .inl (G.2.1 1, 2048, .inl (cnt gk_true 7))), (q7, .inl (G.2.1 2, 2048, .inl (cnt gk_first 7))), (q8, .inl (G.2.1 0, 8192, .inl (fun _ => 0))), (q9, .inl (G.2.1 0, 512, .inl (fun _ => 0))), (q10, .inl (G.2.1 0, 2048, .inl (fun _ => 0))), (q11, .inl (G.2.1 0, 2048, .inl (fun _ => 0)))]) hX 1 rfl (by unfold vp_in; decide) (cnt_s rfl (by decide)) rfl dX1_init_123 ?_
  refine l_aload_n hX (i := 0) rfl rfl dX1_init_124 ?_
  refine l_get hX 0 rfl fq_X1_21 rfl dX1_init_125 ?_
  refine l_iload_n hX (i := 1) rfl rfl dX1_init_128 ?_
  refine l_iconst (v := (nI 1)) hX rfl dX1_init_129 ?_
  refine l_iast (ws' := [(h0, .inr (1, [.ref q1, .ref q2, .ref q3, .ref q4, .ref q5, .ref q6, .ref q7, .ref q8, .ref q9, .ref q10, .ref q11, .int (nI 16), .int 0])), (q1, .inl (G.2.1 0, 2048, .inl (cnt gk_kind 8))), (q2, .inl (G.2.1 0, 2048, .inl (fun _ => 0))), (q3, .inl (G.2.1 0, 2048, .inl (fun _ => 0))), (q4, .inl (G.2.1 0, 2048, .inl (cnt gk_one 8))), (q5, .inl (G.2.1 0, 2048, .inl (cnt gk_signs 7))), (q6, .inl (G.2.1 1, 2048, .inl (cnt gk_true 7))), (q7, .inl (G.2.1 2, 2048, .inl (cnt gk_first 7))), (q8, .inl (G.2.1 0, 8192, .inl (fun _ => 0))), (q9, .inl (G.2.1 0, 512, .inl (fun _ => 0))), (q10, .inl (G.2.1 0, 2048, .inl (fun _ => 0))), (q11, .inl (G.2.1 0, 2048, .inl (fun _ => 0)))]) hX 4 rfl (by unfold vp_in; decide) (cnt_s rfl (by decide)) rfl dX1_init_130 ?_
  refine l_aload_n hX (i := 0) rfl rfl dX1_init_131 ?_
  refine l_get hX 0 rfl fq_X1_24 rfl dX1_init_132 ?_
  refine l_iload_n hX (i := 1) rfl rfl dX1_init_135 ?_
  refine l_iload_n hX (i := 1) rfl rfl dX1_init_136 ?_
  refine l_iconst (v := (nI 4)) hX rfl dX1_init_137 ?_
  refine l_ge_t (tgt := 145) hX (by decide) dX1_init_138 (by decide) ?_
  refine l_iconst (v := (nI 1)) hX rfl dX1_init_145 ?_
  refine l_iload_n hX (i := 1) rfl rfl dX1_init_146 ?_
  refine l_iconst (v := (nI 4)) hX rfl dX1_init_147 ?_
  refine l_isub (v := (nI 3)) hX (by decide) dX1_init_148 ?_
  refine l_bipush (v := (nI 6)) hX rfl dX1_init_149 ?_
  refine l_irem (v := (nI 3)) hX (by decide) (by decide) dX1_init_151 ?_
  refine l_ishl (v := (nI 8)) hX (by decide) dX1_init_152 ?_
  refine l_iast (ws' := [(h0, .inr (1, [.ref q1, .ref q2, .ref q3, .ref q4, .ref q5, .ref q6, .ref q7, .ref q8, .ref q9, .ref q10, .ref q11, .int (nI 16), .int 0])), (q1, .inl (G.2.1 0, 2048, .inl (cnt gk_kind 8))), (q2, .inl (G.2.1 0, 2048, .inl (fun _ => 0))), (q3, .inl (G.2.1 0, 2048, .inl (fun _ => 0))), (q4, .inl (G.2.1 0, 2048, .inl (cnt gk_one 8))), (q5, .inl (G.2.1 0, 2048, .inl (cnt gk_signs 8))), (q6, .inl (G.2.1 1, 2048, .inl (cnt gk_true 7))), (q7, .inl (G.2.1 2, 2048, .inl (cnt gk_first 7))), (q8, .inl (G.2.1 0, 8192, .inl (fun _ => 0))), (q9, .inl (G.2.1 0, 512, .inl (fun _ => 0))), (q10, .inl (G.2.1 0, 2048, .inl (fun _ => 0))), (q11, .inl (G.2.1 0, 2048, .inl (fun _ => 0)))]) hX 5 rfl (by unfold vp_in; decide) (cnt_s rfl (by decide)) rfl dX1_init_153 ?_
  refine l_aload_n hX (i := 0) rfl rfl dX1_init_154 ?_
  refine l_get hX 0 rfl fq_X1_27 rfl dX1_init_155 ?_
  refine l_iload_n hX (i := 1) rfl rfl dX1_init_158 ?_
  refine l_iload_n hX (i := 1) rfl rfl dX1_init_159 ?_
  refine l_iconst (v := (nI 1)) hX rfl dX1_init_160 ?_
  refine l_eq_f (tgt := 175) hX (by decide) dX1_init_161 (by decide) ?_
  refine l_iload_n hX (i := 1) rfl rfl dX1_init_164 ?_
  refine l_iconst (v := (nI 3)) hX rfl dX1_init_165 ?_
  refine l_eq_f (tgt := 175) hX (by decide) dX1_init_166 (by decide) ?_
  refine l_iload_n hX (i := 1) rfl rfl dX1_init_169 ?_
  refine l_bipush (v := (nI 10)) hX rfl dX1_init_170 ?_
  refine l_lt_t (tgt := 179) hX (by decide) dX1_init_172 (by decide) ?_
  refine l_iconst (v := (nI 0)) hX rfl dX1_init_179 ?_
  refine l_zast (ws' := [(h0, .inr (1, [.ref q1, .ref q2, .ref q3, .ref q4, .ref q5, .ref q6, .ref q7, .ref q8, .ref q9, .ref q10, .ref q11, .int (nI 16), .int 0])), (q1, .inl (G.2.1 0, 2048, .inl (cnt gk_kind 8))), (q2, .inl (G.2.1 0, 2048, .inl (fun _ => 0))), (q3, .inl (G.2.1 0, 2048, .inl (fun _ => 0))), (q4, .inl (G.2.1 0, 2048, .inl (cnt gk_one 8))), (q5, .inl (G.2.1 0, 2048, .inl (cnt gk_signs 8))), (q6, .inl (G.2.1 1, 2048, .inl (cnt gk_true 8))), (q7, .inl (G.2.1 2, 2048, .inl (cnt gk_first 7))), (q8, .inl (G.2.1 0, 8192, .inl (fun _ => 0))), (q9, .inl (G.2.1 0, 512, .inl (fun _ => 0))), (q10, .inl (G.2.1 0, 2048, .inl (fun _ => 0))), (q11, .inl (G.2.1 0, 2048, .inl (fun _ => 0)))]) hX 6 rfl (by unfold vp_in; decide) (cnt_s rfl (by decide)) rfl dX1_init_180 ?_
  refine l_aload_n hX (i := 0) rfl rfl dX1_init_181 ?_
  refine l_get hX 0 rfl fq_X1_31 rfl dX1_init_182 ?_
  refine l_iload_n hX (i := 1) rfl rfl dX1_init_185 ?_
  refine l_iload_n hX (i := 1) rfl rfl dX1_init_186 ?_
  refine l_bipush (v := (nI 10)) hX rfl dX1_init_187 ?_
  refine l_lt_t (tgt := 197) hX (by decide) dX1_init_189 (by decide) ?_
  refine l_getll hX sl_X1_51 dX1_init_197 ?_
  refine l_iload_n hX (i := 1) rfl rfl dX1_init_200 ?_
  refine l_caldll (v := 100) hX (by unfold vp_in; decide) (by decide) dX1_init_201 ?_
  refine l_cast (ws' := [(h0, .inr (1, [.ref q1, .ref q2, .ref q3, .ref q4, .ref q5, .ref q6, .ref q7, .ref q8, .ref q9, .ref q10, .ref q11, .int (nI 16), .int 0])), (q1, .inl (G.2.1 0, 2048, .inl (cnt gk_kind 8))), (q2, .inl (G.2.1 0, 2048, .inl (fun _ => 0))), (q3, .inl (G.2.1 0, 2048, .inl (fun _ => 0))), (q4, .inl (G.2.1 0, 2048, .inl (cnt gk_one 8))), (q5, .inl (G.2.1 0, 2048, .inl (cnt gk_signs 8))), (q6, .inl (G.2.1 1, 2048, .inl (cnt gk_true 8))), (q7, .inl (G.2.1 2, 2048, .inl (cnt gk_first 8))), (q8, .inl (G.2.1 0, 8192, .inl (fun _ => 0))), (q9, .inl (G.2.1 0, 512, .inl (fun _ => 0))), (q10, .inl (G.2.1 0, 2048, .inl (fun _ => 0))), (q11, .inl (G.2.1 0, 2048, .inl (fun _ => 0)))]) hX 7 rfl (by unfold vp_in; decide) (cnt_s rfl (by decide)) rfl dX1_init_202 ?_
  refine l_iinc (v := (nI 8)) (L' := [some (.ref h0), some (.int (nI 8))]) hX (i := 1) rfl (by decide) (by decide) rfl dX1_init_203 ?_
  refine l_goto (tgt := 111) hX dX1_init_206 (by decide) ?_
  refine l_iload_n hX (i := 1) rfl rfl dX1_init_111 ?_
  refine l_bipush (v := (nI 16)) hX rfl dX1_init_112 ?_
  refine l_ge_f (tgt := 209) hX (by decide) dX1_init_114 (by decide) ?_
  refine l_aload_n hX (i := 0) rfl rfl dX1_init_117 ?_
  refine l_get hX 0 rfl fq_X1_9 rfl dX1_init_118 ?_
  refine l_iload_n hX (i := 1) rfl rfl dX1_init_121 ?_
  refine l_iload_n hX (i := 1) rfl rfl dX1_init_122 ?_
  refine l_iast (ws' := [(h0, .inr (1, [.ref q1, .ref q2, .ref q3, .ref q4, .ref q5, .ref q6, .ref q7, .ref q8, .ref q9, .ref q10, .ref q11, .int (nI 16), .int 0])), (q1, .inl (G.2.1 0, 2048, .inl (cnt gk_kind 9))), (q2, .inl (G.2.1 0, 2048, .inl (fun _ => 0))), (q3, .inl (G.2.1 0, 2048, .inl (fun _ => 0))), (q4, .inl (G.2.1 0, 2048, .inl (cnt gk_one 8))), (q5, .inl (G.2.1 0, 2048, .inl (cnt gk_signs 8))), (q6, .inl (G.2.1 1, 2048, .inl (cnt gk_true 8))), (q7, .inl (G.2.1 2, 2048, .inl (cnt gk_first 8))), (q8, .inl (G.2.1 0, 8192, .inl (fun _ => 0))), (q9, .inl (G.2.1 0, 512, .inl (fun _ => 0))), (q10, .inl (G.2.1 0, 2048, .inl (fun _ => 0))), (q11, .inl (G.2.1 0, 2048, .inl (fun _ => 0)))]) hX 1 rfl (by unfold vp_in; decide) (cnt_s rfl (by decide)) rfl dX1_init_123 ?_
  refine l_aload_n hX (i := 0) rfl rfl dX1_init_124 ?_
  refine l_get hX 0 rfl fq_X1_21 rfl dX1_init_125 ?_
  refine l_iload_n hX (i := 1) rfl rfl dX1_init_128 ?_
  refine l_iconst (v := (nI 1)) hX rfl dX1_init_129 ?_
  refine l_iast (ws' := [(h0, .inr (1, [.ref q1, .ref q2, .ref q3, .ref q4, .ref q5, .ref q6, .ref q7, .ref q8, .ref q9, .ref q10, .ref q11, .int (nI 16), .int 0])), (q1, .inl (G.2.1 0, 2048, .inl (cnt gk_kind 9))), (q2, .inl (G.2.1 0, 2048, .inl (fun _ => 0))), (q3, .inl (G.2.1 0, 2048, .inl (fun _ => 0))), (q4, .inl (G.2.1 0, 2048, .inl (cnt gk_one 9))), (q5, .inl (G.2.1 0, 2048, .inl (cnt gk_signs 8))), (q6, .inl (G.2.1 1, 2048, .inl (cnt gk_true 8))), (q7, .inl (G.2.1 2, 2048, .inl (cnt gk_first 8))), (q8, .inl (G.2.1 0, 8192, .inl (fun _ => 0))), (q9, .inl (G.2.1 0, 512, .inl (fun _ => 0))), (q10, .inl (G.2.1 0, 2048, .inl (fun _ => 0))), (q11, .inl (G.2.1 0, 2048, .inl (fun _ => 0)))]) hX 4 rfl (by unfold vp_in; decide) (cnt_s rfl (by decide)) rfl dX1_init_130 ?_
  refine l_aload_n hX (i := 0) rfl rfl dX1_init_131 ?_
  refine l_get hX 0 rfl fq_X1_24 rfl dX1_init_132 ?_
  refine l_iload_n hX (i := 1) rfl rfl dX1_init_135 ?_
  refine l_iload_n hX (i := 1) rfl rfl dX1_init_136 ?_
  refine l_iconst (v := (nI 4)) hX rfl dX1_init_137 ?_
  refine l_ge_t (tgt := 145) hX (by decide) dX1_init_138 (by decide) ?_
  refine l_iconst (v := (nI 1)) hX rfl dX1_init_145 ?_
  refine l_iload_n hX (i := 1) rfl rfl dX1_init_146 ?_
  refine l_iconst (v := (nI 4)) hX rfl dX1_init_147 ?_
  refine l_isub (v := (nI 4)) hX (by decide) dX1_init_148 ?_
  refine l_bipush (v := (nI 6)) hX rfl dX1_init_149 ?_
  refine l_irem (v := (nI 4)) hX (by decide) (by decide) dX1_init_151 ?_
  refine l_ishl (v := (nI 16)) hX (by decide) dX1_init_152 ?_
  refine l_iast (ws' := [(h0, .inr (1, [.ref q1, .ref q2, .ref q3, .ref q4, .ref q5, .ref q6, .ref q7, .ref q8, .ref q9, .ref q10, .ref q11, .int (nI 16), .int 0])), (q1, .inl (G.2.1 0, 2048, .inl (cnt gk_kind 9))), (q2, .inl (G.2.1 0, 2048, .inl (fun _ => 0))), (q3, .inl (G.2.1 0, 2048, .inl (fun _ => 0))), (q4, .inl (G.2.1 0, 2048, .inl (cnt gk_one 9))), (q5, .inl (G.2.1 0, 2048, .inl (cnt gk_signs 9))), (q6, .inl (G.2.1 1, 2048, .inl (cnt gk_true 8))), (q7, .inl (G.2.1 2, 2048, .inl (cnt gk_first 8))), (q8, .inl (G.2.1 0, 8192, .inl (fun _ => 0))), (q9, .inl (G.2.1 0, 512, .inl (fun _ => 0))), (q10, .inl (G.2.1 0, 2048, .inl (fun _ => 0))), (q11, .inl (G.2.1 0, 2048, .inl (fun _ => 0)))]) hX 5 rfl (by unfold vp_in; decide) (cnt_s rfl (by decide)) rfl dX1_init_153 ?_
  refine l_aload_n hX (i := 0) rfl rfl dX1_init_154 ?_
  refine l_get hX 0 rfl fq_X1_27 rfl dX1_init_155 ?_
  refine l_iload_n hX (i := 1) rfl rfl dX1_init_158 ?_
  refine l_iload_n hX (i := 1) rfl rfl dX1_init_159 ?_
  refine l_iconst (v := (nI 1)) hX rfl dX1_init_160 ?_
  refine l_eq_f (tgt := 175) hX (by decide) dX1_init_161 (by decide) ?_
  refine l_iload_n hX (i := 1) rfl rfl dX1_init_164 ?_
  refine l_iconst (v := (nI 3)) hX rfl dX1_init_165 ?_
  refine l_eq_f (tgt := 175) hX (by decide) dX1_init_166 (by decide) ?_
  refine l_iload_n hX (i := 1) rfl rfl dX1_init_169 ?_
  refine l_bipush (v := (nI 10)) hX rfl dX1_init_170 ?_
  refine l_lt_t (tgt := 179) hX (by decide) dX1_init_172 (by decide) ?_
  refine l_iconst (v := (nI 0)) hX rfl dX1_init_179 ?_
  refine l_zast (ws' := [(h0, .inr (1, [.ref q1, .ref q2, .ref q3, .ref q4, .ref q5, .ref q6, .ref q7, .ref q8, .ref q9, .ref q10, .ref q11, .int (nI 16), .int 0])), (q1, .inl (G.2.1 0, 2048, .inl (cnt gk_kind 9))), (q2, .inl (G.2.1 0, 2048, .inl (fun _ => 0))), (q3, .inl (G.2.1 0, 2048, .inl (fun _ => 0))), (q4, .inl (G.2.1 0, 2048, .inl (cnt gk_one 9))), (q5, .inl (G.2.1 0, 2048, .inl (cnt gk_signs 9))), (q6, .inl (G.2.1 1, 2048, .inl (cnt gk_true 9))), (q7, .inl (G.2.1 2, 2048, .inl (cnt gk_first 8))), (q8, .inl (G.2.1 0, 8192, .inl (fun _ => 0))), (q9, .inl (G.2.1 0, 512, .inl (fun _ => 0))), (q10, .inl (G.2.1 0, 2048, .inl (fun _ => 0))), (q11, .inl (G.2.1 0, 2048, .inl (fun _ => 0)))]) hX 6 rfl (by unfold vp_in; decide) (cnt_s rfl (by decide)) rfl dX1_init_180 ?_
  refine l_aload_n hX (i := 0) rfl rfl dX1_init_181 ?_
  refine l_get hX 0 rfl fq_X1_31 rfl dX1_init_182 ?_
  refine l_iload_n hX (i := 1) rfl rfl dX1_init_185 ?_
  refine l_iload_n hX (i := 1) rfl rfl dX1_init_186 ?_
  refine l_bipush (v := (nI 10)) hX rfl dX1_init_187 ?_
  refine l_lt_t (tgt := 197) hX (by decide) dX1_init_189 (by decide) ?_
  refine l_getll hX sl_X1_51 dX1_init_197 ?_
  refine l_iload_n hX (i := 1) rfl rfl dX1_init_200 ?_
  refine l_caldll (v := 101) hX (by unfold vp_in; decide) (by decide) dX1_init_201 ?_
  refine l_cast (ws' := [(h0, .inr (1, [.ref q1, .ref q2, .ref q3, .ref q4, .ref q5, .ref q6, .ref q7, .ref q8, .ref q9, .ref q10, .ref q11, .int (nI 16), .int 0])), (q1, .inl (G.2.1 0, 2048, .inl (cnt gk_kind 9))), (q2, .inl (G.2.1 0, 2048, .inl (fun _ => 0))), (q3, .inl (G.2.1 0, 2048, .inl (fun _ => 0))), (q4, .inl (G.2.1 0, 2048, .inl (cnt gk_one 9))), (q5, .inl (G.2.1 0, 2048, .inl (cnt gk_signs 9))), (q6, .inl (G.2.1 1, 2048, .inl (cnt gk_true 9))), (q7, .inl (G.2.1 2, 2048, .inl (cnt gk_first 9))), (q8, .inl (G.2.1 0, 8192, .inl (fun _ => 0))), (q9, .inl (G.2.1 0, 512, .inl (fun _ => 0))), (q10, .inl (G.2.1 0, 2048, .inl (fun _ => 0))), (q11, .inl (G.2.1 0, 2048, .inl (fun _ => 0)))]) hX 7 rfl (by unfold vp_in; decide) (cnt_s rfl (by decide)) rfl dX1_init_202 ?_
  refine l_iinc (v := (nI 9)) (L' := [some (.ref h0), some (.int (nI 9))]) hX (i := 1) rfl (by decide) (by decide) rfl dX1_init_203 ?_
  refine l_goto (tgt := 111) hX dX1_init_206 (by decide) ?_
  refine l_iload_n hX (i := 1) rfl rfl dX1_init_111 ?_
  refine l_bipush (v := (nI 16)) hX rfl dX1_init_112 ?_
  refine l_ge_f (tgt := 209) hX (by decide) dX1_init_114 (by decide) ?_
  refine l_aload_n hX (i := 0) rfl rfl dX1_init_117 ?_
  refine l_get hX 0 rfl fq_X1_9 rfl dX1_init_118 ?_
  refine l_iload_n hX (i := 1) rfl rfl dX1_init_121 ?_
  refine l_iload_n hX (i := 1) rfl rfl dX1_init_122 ?_
  refine l_iast (ws' := [(h0, .inr (1, [.ref q1, .ref q2, .ref q3, .ref q4, .ref q5, .ref q6, .ref q7, .ref q8, .ref q9, .ref q10, .ref q11, .int (nI 16), .int 0])), (q1, .inl (G.2.1 0, 2048, .inl (cnt gk_kind 10))), (q2, .inl (G.2.1 0, 2048, .inl (fun _ => 0))), (q3, .inl (G.2.1 0, 2048, .inl (fun _ => 0))), (q4, .inl (G.2.1 0, 2048, .inl (cnt gk_one 9))), (q5, .inl (G.2.1 0, 2048, .inl (cnt gk_signs 9))), (q6, .inl (G.2.1 1, 2048, .inl (cnt gk_true 9))), (q7, .inl (G.2.1 2, 2048, .inl (cnt gk_first 9))), (q8, .inl (G.2.1 0, 8192, .inl (fun _ => 0))), (q9, .inl (G.2.1 0, 512, .inl (fun _ => 0))), (q10, .inl (G.2.1 0, 2048, .inl (fun _ => 0))), (q11, .inl (G.2.1 0, 2048, .inl (fun _ => 0)))]) hX 1 rfl (by unfold vp_in; decide) (cnt_s rfl (by decide)) rfl dX1_init_123 ?_
  refine l_aload_n hX (i := 0) rfl rfl dX1_init_124 ?_
  refine l_get hX 0 rfl fq_X1_21 rfl dX1_init_125 ?_
  refine l_iload_n hX (i := 1) rfl rfl dX1_init_128 ?_
  refine l_iconst (v := (nI 1)) hX rfl dX1_init_129 ?_
  refine l_iast (ws' := [(h0, .inr (1, [.ref q1, .ref q2, .ref q3, .ref q4, .ref q5, .ref q6, .ref q7, .ref q8, .ref q9, .ref q10, .ref q11, .int (nI 16), .int 0])), (q1, .inl (G.2.1 0, 2048, .inl (cnt gk_kind 10))), (q2, .inl (G.2.1 0, 2048, .inl (fun _ => 0))), (q3, .inl (G.2.1 0, 2048, .inl (fun _ => 0))), (q4, .inl (G.2.1 0, 2048, .inl (cnt gk_one 10))), (q5, .inl (G.2.1 0, 2048, .inl (cnt gk_signs 9))), (q6, .inl (G.2.1 1, 2048, .inl (cnt gk_true 9))), (q7, .inl (G.2.1 2, 2048, .inl (cnt gk_first 9))), (q8, .inl (G.2.1 0, 8192, .inl (fun _ => 0))), (q9, .inl (G.2.1 0, 512, .inl (fun _ => 0))), (q10, .inl (G.2.1 0, 2048, .inl (fun _ => 0))), (q11, .inl (G.2.1 0, 2048, .inl (fun _ => 0)))]) hX 4 rfl (by unfold vp_in; decide) (cnt_s rfl (by decide)) rfl dX1_init_130 ?_
  refine l_aload_n hX (i := 0) rfl rfl dX1_init_131 ?_
  refine l_get hX 0 rfl fq_X1_24 rfl dX1_init_132 ?_
  refine l_iload_n hX (i := 1) rfl rfl dX1_init_135 ?_
  refine l_iload_n hX (i := 1) rfl rfl dX1_init_136 ?_
  refine l_iconst (v := (nI 4)) hX rfl dX1_init_137 ?_
  refine l_ge_t (tgt := 145) hX (by decide) dX1_init_138 (by decide) ?_
  refine l_iconst (v := (nI 1)) hX rfl dX1_init_145 ?_
  refine l_iload_n hX (i := 1) rfl rfl dX1_init_146 ?_
  refine l_iconst (v := (nI 4)) hX rfl dX1_init_147 ?_
  refine l_isub (v := (nI 5)) hX (by decide) dX1_init_148 ?_
  refine l_bipush (v := (nI 6)) hX rfl dX1_init_149 ?_
  refine l_irem (v := (nI 5)) hX (by decide) (by decide) dX1_init_151 ?_
  refine l_ishl (v := (nI 32)) hX (by decide) dX1_init_152 ?_
  refine l_iast (ws' := [(h0, .inr (1, [.ref q1, .ref q2, .ref q3, .ref q4, .ref q5, .ref q6, .ref q7, .ref q8, .ref q9, .ref q10, .ref q11, .int (nI 16), .int 0])), (q1, .inl (G.2.1 0, 2048, .inl (cnt gk_kind 10))), (q2, .inl (G.2.1 0, 2048, .inl (fun _ => 0))), (q3, .inl (G.2.1 0, 2048, .inl (fun _ => 0))), (q4, .inl (G.2.1 0, 2048, .inl (cnt gk_one 10))), (q5, .inl (G.2.1 0, 2048, .inl (cnt gk_signs 10))), (q6, .inl (G.2.1 1, 2048, .inl (cnt gk_true 9))), (q7, .inl (G.2.1 2, 2048, .inl (cnt gk_first 9))), (q8, .inl (G.2.1 0, 8192, .inl (fun _ => 0))), (q9, .inl (G.2.1 0, 512, .inl (fun _ => 0))), (q10, .inl (G.2.1 0, 2048, .inl (fun _ => 0))), (q11, .inl (G.2.1 0, 2048, .inl (fun _ => 0)))]) hX 5 rfl (by unfold vp_in; decide) (cnt_s rfl (by decide)) rfl dX1_init_153 ?_
  refine l_aload_n hX (i := 0) rfl rfl dX1_init_154 ?_
  refine l_get hX 0 rfl fq_X1_27 rfl dX1_init_155 ?_
  refine l_iload_n hX (i := 1) rfl rfl dX1_init_158 ?_
  refine l_iload_n hX (i := 1) rfl rfl dX1_init_159 ?_
  refine l_iconst (v := (nI 1)) hX rfl dX1_init_160 ?_
  refine l_eq_f (tgt := 175) hX (by decide) dX1_init_161 (by decide) ?_
  refine l_iload_n hX (i := 1) rfl rfl dX1_init_164 ?_
  refine l_iconst (v := (nI 3)) hX rfl dX1_init_165 ?_
  refine l_eq_f (tgt := 175) hX (by decide) dX1_init_166 (by decide) ?_
  refine l_iload_n hX (i := 1) rfl rfl dX1_init_169 ?_
  refine l_bipush (v := (nI 10)) hX rfl dX1_init_170 ?_
  refine l_lt_t (tgt := 179) hX (by decide) dX1_init_172 (by decide) ?_
  refine l_iconst (v := (nI 0)) hX rfl dX1_init_179 ?_
  refine l_zast (ws' := [(h0, .inr (1, [.ref q1, .ref q2, .ref q3, .ref q4, .ref q5, .ref q6, .ref q7, .ref q8, .ref q9, .ref q10, .ref q11, .int (nI 16), .int 0])), (q1, .inl (G.2.1 0, 2048, .inl (cnt gk_kind 10))), (q2, .inl (G.2.1 0, 2048, .inl (fun _ => 0))), (q3, .inl (G.2.1 0, 2048, .inl (fun _ => 0))), (q4, .inl (G.2.1 0, 2048, .inl (cnt gk_one 10))), (q5, .inl (G.2.1 0, 2048, .inl (cnt gk_signs 10))), (q6, .inl (G.2.1 1, 2048, .inl (cnt gk_true 10))), (q7, .inl (G.2.1 2, 2048, .inl (cnt gk_first 9))), (q8, .inl (G.2.1 0, 8192, .inl (fun _ => 0))), (q9, .inl (G.2.1 0, 512, .inl (fun _ => 0))), (q10, .inl (G.2.1 0, 2048, .inl (fun _ => 0))), (q11, .inl (G.2.1 0, 2048, .inl (fun _ => 0)))]) hX 6 rfl (by unfold vp_in; decide) (cnt_s rfl (by decide)) rfl dX1_init_180 ?_
  refine l_aload_n hX (i := 0) rfl rfl dX1_init_181 ?_
  refine l_get hX 0 rfl fq_X1_31 rfl dX1_init_182 ?_
  refine l_iload_n hX (i := 1) rfl rfl dX1_init_185 ?_
  refine l_iload_n hX (i := 1) rfl rfl dX1_init_186 ?_
  refine l_bipush (v := (nI 10)) hX rfl dX1_init_187 ?_
  refine l_lt_t (tgt := 197) hX (by decide) dX1_init_189 (by decide) ?_
  refine l_getll hX sl_X1_51 dX1_init_197 ?_
  refine l_iload_n hX (i := 1) rfl rfl dX1_init_200 ?_
  refine l_caldll (v := 102) hX (by unfold vp_in; decide) (by decide) dX1_init_201 ?_
  refine l_cast (ws' := [(h0, .inr (1, [.ref q1, .ref q2, .ref q3, .ref q4, .ref q5, .ref q6, .ref q7, .ref q8, .ref q9, .ref q10, .ref q11, .int (nI 16), .int 0])), (q1, .inl (G.2.1 0, 2048, .inl (cnt gk_kind 10))), (q2, .inl (G.2.1 0, 2048, .inl (fun _ => 0))), (q3, .inl (G.2.1 0, 2048, .inl (fun _ => 0))), (q4, .inl (G.2.1 0, 2048, .inl (cnt gk_one 10))), (q5, .inl (G.2.1 0, 2048, .inl (cnt gk_signs 10))), (q6, .inl (G.2.1 1, 2048, .inl (cnt gk_true 10))), (q7, .inl (G.2.1 2, 2048, .inl (cnt gk_first 10))), (q8, .inl (G.2.1 0, 8192, .inl (fun _ => 0))), (q9, .inl (G.2.1 0, 512, .inl (fun _ => 0))), (q10, .inl (G.2.1 0, 2048, .inl (fun _ => 0))), (q11, .inl (G.2.1 0, 2048, .inl (fun _ => 0)))]) hX 7 rfl (by unfold vp_in; decide) (cnt_s rfl (by decide)) rfl dX1_init_202 ?_
  refine l_iinc (v := (nI 10)) (L' := [some (.ref h0), some (.int (nI 10))]) hX (i := 1) rfl (by decide) (by decide) rfl dX1_init_203 ?_
  refine l_goto (tgt := 111) hX dX1_init_206 (by decide) ?_
  refine l_iload_n hX (i := 1) rfl rfl dX1_init_111 ?_
  refine l_bipush (v := (nI 16)) hX rfl dX1_init_112 ?_
  refine l_ge_f (tgt := 209) hX (by decide) dX1_init_114 (by decide) ?_
  refine l_aload_n hX (i := 0) rfl rfl dX1_init_117 ?_
  refine l_get hX 0 rfl fq_X1_9 rfl dX1_init_118 ?_
  refine l_iload_n hX (i := 1) rfl rfl dX1_init_121 ?_
  refine l_iload_n hX (i := 1) rfl rfl dX1_init_122 ?_
  refine l_iast (ws' := [(h0, .inr (1, [.ref q1, .ref q2, .ref q3, .ref q4, .ref q5, .ref q6, .ref q7, .ref q8, .ref q9, .ref q10, .ref q11, .int (nI 16), .int 0])), (q1, .inl (G.2.1 0, 2048, .inl (cnt gk_kind 11))), (q2, .inl (G.2.1 0, 2048, .inl (fun _ => 0))), (q3, .inl (G.2.1 0, 2048, .inl (fun _ => 0))), (q4, .inl (G.2.1 0, 2048, .inl (cnt gk_one 10))), (q5, .inl (G.2.1 0, 2048, .inl (cnt gk_signs 10))), (q6, .inl (G.2.1 1, 2048, .inl (cnt gk_true 10))), (q7, .inl (G.2.1 2, 2048, .inl (cnt gk_first 10))), (q8, .inl (G.2.1 0, 8192, .inl (fun _ => 0))), (q9, .inl (G.2.1 0, 512, .inl (fun _ => 0))), (q10, .inl (G.2.1 0, 2048, .inl (fun _ => 0))), (q11, .inl (G.2.1 0, 2048, .inl (fun _ => 0)))]) hX 1 rfl (by unfold vp_in; decide) (cnt_s rfl (by decide)) rfl dX1_init_123 ?_
  refine l_aload_n hX (i := 0) rfl rfl dX1_init_124 ?_
  refine l_get hX 0 rfl fq_X1_21 rfl dX1_init_125 ?_
  refine l_iload_n hX (i := 1) rfl rfl dX1_init_128 ?_
  refine l_iconst (v := (nI 1)) hX rfl dX1_init_129 ?_
  refine l_iast (ws' := [(h0, .inr (1, [.ref q1, .ref q2, .ref q3, .ref q4, .ref q5, .ref q6, .ref q7, .ref q8, .ref q9, .ref q10, .ref q11, .int (nI 16), .int 0])), (q1, .inl (G.2.1 0, 2048, .inl (cnt gk_kind 11))), (q2, .inl (G.2.1 0, 2048, .inl (fun _ => 0))), (q3, .inl (G.2.1 0, 2048, .inl (fun _ => 0))), (q4, .inl (G.2.1 0, 2048, .inl (cnt gk_one 11))), (q5, .inl (G.2.1 0, 2048, .inl (cnt gk_signs 10))), (q6, .inl (G.2.1 1, 2048, .inl (cnt gk_true 10))), (q7, .inl (G.2.1 2, 2048, .inl (cnt gk_first 10))), (q8, .inl (G.2.1 0, 8192, .inl (fun _ => 0))), (q9, .inl (G.2.1 0, 512, .inl (fun _ => 0))), (q10, .inl (G.2.1 0, 2048, .inl (fun _ => 0))), (q11, .inl (G.2.1 0, 2048, .inl (fun _ => 0)))]) hX 4 rfl (by unfold vp_in; decide) (cnt_s rfl (by decide)) rfl dX1_init_130 ?_
  refine l_aload_n hX (i := 0) rfl rfl dX1_init_131 ?_
  refine l_get hX 0 rfl fq_X1_24 rfl dX1_init_132 ?_
  refine l_iload_n hX (i := 1) rfl rfl dX1_init_135 ?_
  refine l_iload_n hX (i := 1) rfl rfl dX1_init_136 ?_
  refine l_iconst (v := (nI 4)) hX rfl dX1_init_137 ?_
  refine l_ge_t (tgt := 145) hX (by decide) dX1_init_138 (by decide) ?_
  refine l_iconst (v := (nI 1)) hX rfl dX1_init_145 ?_
  refine l_iload_n hX (i := 1) rfl rfl dX1_init_146 ?_
  refine l_iconst (v := (nI 4)) hX rfl dX1_init_147 ?_
  refine l_isub (v := (nI 6)) hX (by decide) dX1_init_148 ?_
  refine l_bipush (v := (nI 6)) hX rfl dX1_init_149 ?_
  refine l_irem (v := (nI 0)) hX (by decide) (by decide) dX1_init_151 ?_
  refine l_ishl (v := (nI 1)) hX (by decide) dX1_init_152 ?_
  refine l_iast (ws' := [(h0, .inr (1, [.ref q1, .ref q2, .ref q3, .ref q4, .ref q5, .ref q6, .ref q7, .ref q8, .ref q9, .ref q10, .ref q11, .int (nI 16), .int 0])), (q1, .inl (G.2.1 0, 2048, .inl (cnt gk_kind 11))), (q2, .inl (G.2.1 0, 2048, .inl (fun _ => 0))), (q3, .inl (G.2.1 0, 2048, .inl (fun _ => 0))), (q4, .inl (G.2.1 0, 2048, .inl (cnt gk_one 11))), (q5, .inl (G.2.1 0, 2048, .inl (cnt gk_signs 11))), (q6, .inl (G.2.1 1, 2048, .inl (cnt gk_true 10))), (q7, .inl (G.2.1 2, 2048, .inl (cnt gk_first 10))), (q8, .inl (G.2.1 0, 8192, .inl (fun _ => 0))), (q9, .inl (G.2.1 0, 512, .inl (fun _ => 0))), (q10, .inl (G.2.1 0, 2048, .inl (fun _ => 0))), (q11, .inl (G.2.1 0, 2048, .inl (fun _ => 0)))]) hX 5 rfl (by unfold vp_in; decide) (cnt_s rfl (by decide)) rfl dX1_init_153 ?_
  refine l_aload_n hX (i := 0) rfl rfl dX1_init_154 ?_
  refine l_get hX 0 rfl fq_X1_27 rfl dX1_init_155 ?_
  refine l_iload_n hX (i := 1) rfl rfl dX1_init_158 ?_
  refine l_iload_n hX (i := 1) rfl rfl dX1_init_159 ?_
  refine l_iconst (v := (nI 1)) hX rfl dX1_init_160 ?_
  refine l_eq_f (tgt := 175) hX (by decide) dX1_init_161 (by decide) ?_
  refine l_iload_n hX (i := 1) rfl rfl dX1_init_164 ?_
  refine l_iconst (v := (nI 3)) hX rfl dX1_init_165 ?_
  refine l_eq_f (tgt := 175) hX (by decide) dX1_init_166 (by decide) ?_
  refine l_iload_n hX (i := 1) rfl rfl dX1_init_169 ?_
  refine l_bipush (v := (nI 10)) hX rfl dX1_init_170 ?_
  refine l_lt_f (tgt := 179) hX (by decide) dX1_init_172 (by decide) ?_
  refine l_iconst (v := (nI 1)) hX rfl dX1_init_175 ?_
  refine l_goto (tgt := 180) hX dX1_init_176 (by decide) ?_
  refine l_zast (ws' := [(h0, .inr (1, [.ref q1, .ref q2, .ref q3, .ref q4, .ref q5, .ref q6, .ref q7, .ref q8, .ref q9, .ref q10, .ref q11, .int (nI 16), .int 0])), (q1, .inl (G.2.1 0, 2048, .inl (cnt gk_kind 11))), (q2, .inl (G.2.1 0, 2048, .inl (fun _ => 0))), (q3, .inl (G.2.1 0, 2048, .inl (fun _ => 0))), (q4, .inl (G.2.1 0, 2048, .inl (cnt gk_one 11))), (q5, .inl (G.2.1 0, 2048, .inl (cnt gk_signs 11))), (q6, .inl (G.2.1 1, 2048, .inl (cnt gk_true 11))), (q7, .inl (G.2.1 2, 2048, .inl (cnt gk_first 10))), (q8, .inl (G.2.1 0, 8192, .inl (fun _ => 0))), (q9, .inl (G.2.1 0, 512, .inl (fun _ => 0))), (q10, .inl (G.2.1 0, 2048, .inl (fun _ => 0))), (q11, .inl (G.2.1 0, 2048, .inl (fun _ => 0)))]) hX 6 rfl (by unfold vp_in; decide) (cnt_s rfl (by decide)) rfl dX1_init_180 ?_
  refine l_aload_n hX (i := 0) rfl rfl dX1_init_181 ?_
  refine l_get hX 0 rfl fq_X1_31 rfl dX1_init_182 ?_
  refine l_iload_n hX (i := 1) rfl rfl dX1_init_185 ?_
  refine l_iload_n hX (i := 1) rfl rfl dX1_init_186 ?_
  refine l_bipush (v := (nI 10)) hX rfl dX1_init_187 ?_
  refine l_lt_f (tgt := 197) hX (by decide) dX1_init_189 (by decide) ?_
  refine l_bipush (v := (nI 45)) hX rfl dX1_init_192 ?_
  refine l_goto (tgt := 202) hX dX1_init_194 (by decide) ?_
  refine l_cast (ws' := [(h0, .inr (1, [.ref q1, .ref q2, .ref q3, .ref q4, .ref q5, .ref q6, .ref q7, .ref q8, .ref q9, .ref q10, .ref q11, .int (nI 16), .int 0])), (q1, .inl (G.2.1 0, 2048, .inl (cnt gk_kind 11))), (q2, .inl (G.2.1 0, 2048, .inl (fun _ => 0))), (q3, .inl (G.2.1 0, 2048, .inl (fun _ => 0))), (q4, .inl (G.2.1 0, 2048, .inl (cnt gk_one 11))), (q5, .inl (G.2.1 0, 2048, .inl (cnt gk_signs 11))), (q6, .inl (G.2.1 1, 2048, .inl (cnt gk_true 11))), (q7, .inl (G.2.1 2, 2048, .inl (cnt gk_first 11))), (q8, .inl (G.2.1 0, 8192, .inl (fun _ => 0))), (q9, .inl (G.2.1 0, 512, .inl (fun _ => 0))), (q10, .inl (G.2.1 0, 2048, .inl (fun _ => 0))), (q11, .inl (G.2.1 0, 2048, .inl (fun _ => 0)))]) hX 7 rfl (by unfold vp_in; decide) (cnt_s rfl (by decide)) rfl dX1_init_202 ?_
  refine l_iinc (v := (nI 11)) (L' := [some (.ref h0), some (.int (nI 11))]) hX (i := 1) rfl (by decide) (by decide) rfl dX1_init_203 ?_
  refine l_goto (tgt := 111) hX dX1_init_206 (by decide) ?_
  refine l_iload_n hX (i := 1) rfl rfl dX1_init_111 ?_
  refine l_bipush (v := (nI 16)) hX rfl dX1_init_112 ?_
  refine l_ge_f (tgt := 209) hX (by decide) dX1_init_114 (by decide) ?_
  refine l_aload_n hX (i := 0) rfl rfl dX1_init_117 ?_
  refine l_get hX 0 rfl fq_X1_9 rfl dX1_init_118 ?_
  refine l_iload_n hX (i := 1) rfl rfl dX1_init_121 ?_
  refine l_iload_n hX (i := 1) rfl rfl dX1_init_122 ?_
  refine l_iast (ws' := [(h0, .inr (1, [.ref q1, .ref q2, .ref q3, .ref q4, .ref q5, .ref q6, .ref q7, .ref q8, .ref q9, .ref q10, .ref q11, .int (nI 16), .int 0])), (q1, .inl (G.2.1 0, 2048, .inl (cnt gk_kind 12))), (q2, .inl (G.2.1 0, 2048, .inl (fun _ => 0))), (q3, .inl (G.2.1 0, 2048, .inl (fun _ => 0))), (q4, .inl (G.2.1 0, 2048, .inl (cnt gk_one 11))), (q5, .inl (G.2.1 0, 2048, .inl (cnt gk_signs 11))), (q6, .inl (G.2.1 1, 2048, .inl (cnt gk_true 11))), (q7, .inl (G.2.1 2, 2048, .inl (cnt gk_first 11))), (q8, .inl (G.2.1 0, 8192, .inl (fun _ => 0))), (q9, .inl (G.2.1 0, 512, .inl (fun _ => 0))), (q10, .inl (G.2.1 0, 2048, .inl (fun _ => 0))), (q11, .inl (G.2.1 0, 2048, .inl (fun _ => 0)))]) hX 1 rfl (by unfold vp_in; decide) (cnt_s rfl (by decide)) rfl dX1_init_123 ?_
  refine l_aload_n hX (i := 0) rfl rfl dX1_init_124 ?_
  refine l_get hX 0 rfl fq_X1_21 rfl dX1_init_125 ?_
  refine l_iload_n hX (i := 1) rfl rfl dX1_init_128 ?_
  refine l_iconst (v := (nI 1)) hX rfl dX1_init_129 ?_
  refine l_iast (ws' := [(h0, .inr (1, [.ref q1, .ref q2, .ref q3, .ref q4, .ref q5, .ref q6, .ref q7, .ref q8, .ref q9, .ref q10, .ref q11, .int (nI 16), .int 0])), (q1, .inl (G.2.1 0, 2048, .inl (cnt gk_kind 12))), (q2, .inl (G.2.1 0, 2048, .inl (fun _ => 0))), (q3, .inl (G.2.1 0, 2048, .inl (fun _ => 0))), (q4, .inl (G.2.1 0, 2048, .inl (cnt gk_one 12))), (q5, .inl (G.2.1 0, 2048, .inl (cnt gk_signs 11))), (q6, .inl (G.2.1 1, 2048, .inl (cnt gk_true 11))), (q7, .inl (G.2.1 2, 2048, .inl (cnt gk_first 11))), (q8, .inl (G.2.1 0, 8192, .inl (fun _ => 0))), (q9, .inl (G.2.1 0, 512, .inl (fun _ => 0))), (q10, .inl (G.2.1 0, 2048, .inl (fun _ => 0))), (q11, .inl (G.2.1 0, 2048, .inl (fun _ => 0)))]) hX 4 rfl (by unfold vp_in; decide) (cnt_s rfl (by decide)) rfl dX1_init_130 ?_
  refine l_aload_n hX (i := 0) rfl rfl dX1_init_131 ?_
  refine l_get hX 0 rfl fq_X1_24 rfl dX1_init_132 ?_
  refine l_iload_n hX (i := 1) rfl rfl dX1_init_135 ?_
  refine l_iload_n hX (i := 1) rfl rfl dX1_init_136 ?_
  refine l_iconst (v := (nI 4)) hX rfl dX1_init_137 ?_
  refine l_ge_t (tgt := 145) hX (by decide) dX1_init_138 (by decide) ?_
  refine l_iconst (v := (nI 1)) hX rfl dX1_init_145 ?_
  refine l_iload_n hX (i := 1) rfl rfl dX1_init_146 ?_
  refine l_iconst (v := (nI 4)) hX rfl dX1_init_147 ?_
  refine l_isub (v := (nI 7)) hX (by decide) dX1_init_148 ?_
  refine l_bipush (v := (nI 6)) hX rfl dX1_init_149 ?_
  refine l_irem (v := (nI 1)) hX (by decide) (by decide) dX1_init_151 ?_
  refine l_ishl (v := (nI 2)) hX (by decide) dX1_init_152 ?_
  refine l_iast (ws' := [(h0, .inr (1, [.ref q1, .ref q2, .ref q3, .ref q4, .ref q5, .ref q6, .ref q7, .ref q8, .ref q9, .ref q10, .ref q11, .int (nI 16), .int 0])), (q1, .inl (G.2.1 0, 2048, .inl (cnt gk_kind 12))), (q2, .inl (G.2.1 0, 2048, .inl (fun _ => 0))), (q3, .inl (G.2.1 0, 2048, .inl (fun _ => 0))), (q4, .inl (G.2.1 0, 2048, .inl (cnt gk_one 12))), (q5, .inl (G.2.1 0, 2048, .inl (cnt gk_signs 12))), (q6, .inl (G.2.1 1, 2048, .inl (cnt gk_true 11))), (q7, .inl (G.2.1 2, 2048, .inl (cnt gk_first 11))), (q8, .inl (G.2.1 0, 8192, .inl (fun _ => 0))), (q9, .inl (G.2.1 0, 512, .inl (fun _ => 0))), (q10, .inl (G.2.1 0, 2048, .inl (fun _ => 0))), (q11, .inl (G.2.1 0, 2048, .inl (fun _ => 0)))]) hX 5 rfl (by unfold vp_in; decide) (cnt_s rfl (by decide)) rfl dX1_init_153 ?_
  refine l_aload_n hX (i := 0) rfl rfl dX1_init_154 ?_
  refine l_get hX 0 rfl fq_X1_27 rfl dX1_init_155 ?_
  refine l_iload_n hX (i := 1) rfl rfl dX1_init_158 ?_
  refine l_iload_n hX (i := 1) rfl rfl dX1_init_159 ?_
  refine l_iconst (v := (nI 1)) hX rfl dX1_init_160 ?_
  refine l_eq_f (tgt := 175) hX (by decide) dX1_init_161 (by decide) ?_
  refine l_iload_n hX (i := 1) rfl rfl dX1_init_164 ?_
  refine l_iconst (v := (nI 3)) hX rfl dX1_init_165 ?_
  refine l_eq_f (tgt := 175) hX (by decide) dX1_init_166 (by decide) ?_
  refine l_iload_n hX (i := 1) rfl rfl dX1_init_169 ?_
  refine l_bipush (v := (nI 10)) hX rfl dX1_init_170 ?_
  refine l_lt_f (tgt := 179) hX (by decide) dX1_init_172 (by decide) ?_
  refine l_iconst (v := (nI 1)) hX rfl dX1_init_175 ?_
  refine l_goto (tgt := 180) hX dX1_init_176 (by decide) ?_
  refine l_zast (ws' := [(h0, .inr (1, [.ref q1, .ref q2, .ref q3, .ref q4, .ref q5, .ref q6, .ref q7, .ref q8, .ref q9, .ref q10, .ref q11, .int (nI 16), .int 0])), (q1, .inl (G.2.1 0, 2048, .inl (cnt gk_kind 12))), (q2, .inl (G.2.1 0, 2048, .inl (fun _ => 0))), (q3, .inl (G.2.1 0, 2048, .inl (fun _ => 0))), (q4, .inl (G.2.1 0, 2048, .inl (cnt gk_one 12))), (q5, .inl (G.2.1 0, 2048, .inl (cnt gk_signs 12))), (q6, .inl (G.2.1 1, 2048, .inl (cnt gk_true 12))), (q7, .inl (G.2.1 2, 2048, .inl (cnt gk_first 11))), (q8, .inl (G.2.1 0, 8192, .inl (fun _ => 0))), (q9, .inl (G.2.1 0, 512, .inl (fun _ => 0))), (q10, .inl (G.2.1 0, 2048, .inl (fun _ => 0))), (q11, .inl (G.2.1 0, 2048, .inl (fun _ => 0)))]) hX 6 rfl (by unfold vp_in; decide) (cnt_s rfl (by decide)) rfl dX1_init_180 ?_
  refine l_aload_n hX (i := 0) rfl rfl dX1_init_181 ?_
  refine l_get hX 0 rfl fq_X1_31 rfl dX1_init_182 ?_
  refine l_iload_n hX (i := 1) rfl rfl dX1_init_185 ?_
  refine l_iload_n hX (i := 1) rfl rfl dX1_init_186 ?_
  refine l_bipush (v := (nI 10)) hX rfl dX1_init_187 ?_
  refine l_lt_f (tgt := 197) hX (by decide) dX1_init_189 (by decide) ?_
  refine l_bipush (v := (nI 45)) hX rfl dX1_init_192 ?_
  refine l_goto (tgt := 202) hX dX1_init_194 (by decide) ?_
  refine l_cast (ws' := [(h0, .inr (1, [.ref q1, .ref q2, .ref q3, .ref q4, .ref q5, .ref q6, .ref q7, .ref q8, .ref q9, .ref q10, .ref q11, .int (nI 16), .int 0])), (q1, .inl (G.2.1 0, 2048, .inl (cnt gk_kind 12))), (q2, .inl (G.2.1 0, 2048, .inl (fun _ => 0))), (q3, .inl (G.2.1 0, 2048, .inl (fun _ => 0))), (q4, .inl (G.2.1 0, 2048, .inl (cnt gk_one 12))), (q5, .inl (G.2.1 0, 2048, .inl (cnt gk_signs 12))), (q6, .inl (G.2.1 1, 2048, .inl (cnt gk_true 12))), (q7, .inl (G.2.1 2, 2048, .inl (cnt gk_first 12))), (q8, .inl (G.2.1 0, 8192, .inl (fun _ => 0))), (q9, .inl (G.2.1 0, 512, .inl (fun _ => 0))), (q10, .inl (G.2.1 0, 2048, .inl (fun _ => 0))), (q11, .inl (G.2.1 0, 2048, .inl (fun _ => 0)))]) hX 7 rfl (by unfold vp_in; decide) (cnt_s rfl (by decide)) rfl dX1_init_202 ?_
  refine l_iinc (v := (nI 12)) (L' := [some (.ref h0), some (.int (nI 12))]) hX (i := 1) rfl (by decide) (by decide) rfl dX1_init_203 ?_
  refine l_goto (tgt := 111) hX dX1_init_206 (by decide) ?_
  refine l_iload_n hX (i := 1) rfl rfl dX1_init_111 ?_
  refine l_bipush (v := (nI 16)) hX rfl dX1_init_112 ?_
  refine l_ge_f (tgt := 209) hX (by decide) dX1_init_114 (by decide) ?_
  refine l_aload_n hX (i := 0) rfl rfl dX1_init_117 ?_
  refine l_get hX 0 rfl fq_X1_9 rfl dX1_init_118 ?_
  refine l_iload_n hX (i := 1) rfl rfl dX1_init_121 ?_
  refine l_iload_n hX (i := 1) rfl rfl dX1_init_122 ?_
  refine l_iast (ws' := [(h0, .inr (1, [.ref q1, .ref q2, .ref q3, .ref q4, .ref q5, .ref q6, .ref q7, .ref q8, .ref q9, .ref q10, .ref q11, .int (nI 16), .int 0])), (q1, .inl (G.2.1 0, 2048, .inl (cnt gk_kind 13))), (q2, .inl (G.2.1 0, 2048, .inl (fun _ => 0))), (q3, .inl (G.2.1 0, 2048, .inl (fun _ => 0))), (q4, .inl (G.2.1 0, 2048, .inl (cnt gk_one 12))), (q5, .inl (G.2.1 0, 2048, .inl (cnt gk_signs 12))), (q6, .inl (G.2.1 1, 2048, .inl (cnt gk_true 12))), (q7, .inl (G.2.1 2, 2048, .inl (cnt gk_first 12))), (q8, .inl (G.2.1 0, 8192, .inl (fun _ => 0))), (q9, .inl (G.2.1 0, 512, .inl (fun _ => 0))), (q10, .inl (G.2.1 0, 2048, .inl (fun _ => 0))), (q11, .inl (G.2.1 0, 2048, .inl (fun _ => 0)))]) hX 1 rfl (by unfold vp_in; decide) (cnt_s rfl (by decide)) rfl dX1_init_123 ?_
  refine l_aload_n hX (i := 0) rfl rfl dX1_init_124 ?_
  refine l_get hX 0 rfl fq_X1_21 rfl dX1_init_125 ?_
  refine l_iload_n hX (i := 1) rfl rfl dX1_init_128 ?_
  refine l_iconst (v := (nI 1)) hX rfl dX1_init_129 ?_
  refine l_iast (ws' := [(h0, .inr (1, [.ref q1, .ref q2, .ref q3, .ref q4, .ref q5, .ref q6, .ref q7, .ref q8, .ref q9, .ref q10, .ref q11, .int (nI 16), .int 0])), (q1, .inl (G.2.1 0, 2048, .inl (cnt gk_kind 13))), (q2, .inl (G.2.1 0, 2048, .inl (fun _ => 0))), (q3, .inl (G.2.1 0, 2048, .inl (fun _ => 0))), (q4, .inl (G.2.1 0, 2048, .inl (cnt gk_one 13))), (q5, .inl (G.2.1 0, 2048, .inl (cnt gk_signs 12))), (q6, .inl (G.2.1 1, 2048, .inl (cnt gk_true 12))), (q7, .inl (G.2.1 2, 2048, .inl (cnt gk_first 12))), (q8, .inl (G.2.1 0, 8192, .inl (fun _ => 0))), (q9, .inl (G.2.1 0, 512, .inl (fun _ => 0))), (q10, .inl (G.2.1 0, 2048, .inl (fun _ => 0))), (q11, .inl (G.2.1 0, 2048, .inl (fun _ => 0)))]) hX 4 rfl (by unfold vp_in; decide) (cnt_s rfl (by decide)) rfl dX1_init_130 ?_
  refine l_aload_n hX (i := 0) rfl rfl dX1_init_131 ?_
  refine l_get hX 0 rfl fq_X1_24 rfl dX1_init_132 ?_
  refine l_iload_n hX (i := 1) rfl rfl dX1_init_135 ?_
  refine l_iload_n hX (i := 1) rfl rfl dX1_init_136 ?_
  refine l_iconst (v := (nI 4)) hX rfl dX1_init_137 ?_
  refine l_ge_t (tgt := 145) hX (by decide) dX1_init_138 (by decide) ?_
  refine l_iconst (v := (nI 1)) hX rfl dX1_init_145 ?_
  refine l_iload_n hX (i := 1) rfl rfl dX1_init_146 ?_
  refine l_iconst (v := (nI 4)) hX rfl dX1_init_147 ?_
  refine l_isub (v := (nI 8)) hX (by decide) dX1_init_148 ?_
  refine l_bipush (v := (nI 6)) hX rfl dX1_init_149 ?_
  refine l_irem (v := (nI 2)) hX (by decide) (by decide) dX1_init_151 ?_
  refine l_ishl (v := (nI 4)) hX (by decide) dX1_init_152 ?_
  refine l_iast (ws' := [(h0, .inr (1, [.ref q1, .ref q2, .ref q3, .ref q4, .ref q5, .ref q6, .ref q7, .ref q8, .ref q9, .ref q10, .ref q11, .int (nI 16), .int 0])), (q1, .inl (G.2.1 0, 2048, .inl (cnt gk_kind 13))), (q2, .inl (G.2.1 0, 2048, .inl (fun _ => 0))), (q3, .inl (G.2.1 0, 2048, .inl (fun _ => 0))), (q4, .inl (G.2.1 0, 2048, .inl (cnt gk_one 13))), (q5, .inl (G.2.1 0, 2048, .inl (cnt gk_signs 13))), (q6, .inl (G.2.1 1, 2048, .inl (cnt gk_true 12))), (q7, .inl (G.2.1 2, 2048, .inl (cnt gk_first 12))), (q8, .inl (G.2.1 0, 8192, .inl (fun _ => 0))), (q9, .inl (G.2.1 0, 512, .inl (fun _ => 0))), (q10, .inl (G.2.1 0, 2048, .inl (fun _ => 0))), (q11, .inl (G.2.1 0, 2048, .inl (fun _ => 0)))]) hX 5 rfl (by unfold vp_in; decide) (cnt_s rfl (by decide)) rfl dX1_init_153 ?_
  refine l_aload_n hX (i := 0) rfl rfl dX1_init_154 ?_
  refine l_get hX 0 rfl fq_X1_27 rfl dX1_init_155 ?_
  refine l_iload_n hX (i := 1) rfl rfl dX1_init_158 ?_
  refine l_iload_n hX (i := 1) rfl rfl dX1_init_159 ?_
  refine l_iconst (v := (nI 1)) hX rfl dX1_init_160 ?_
  refine l_eq_f (tgt := 175) hX (by decide) dX1_init_161 (by decide) ?_
  refine l_iload_n hX (i := 1) rfl rfl dX1_init_164 ?_
  refine l_iconst (v := (nI 3)) hX rfl dX1_init_165 ?_
  refine l_eq_f (tgt := 175) hX (by decide) dX1_init_166 (by decide) ?_
  refine l_iload_n hX (i := 1) rfl rfl dX1_init_169 ?_
  refine l_bipush (v := (nI 10)) hX rfl dX1_init_170 ?_
  refine l_lt_f (tgt := 179) hX (by decide) dX1_init_172 (by decide) ?_
  refine l_iconst (v := (nI 1)) hX rfl dX1_init_175 ?_
  refine l_goto (tgt := 180) hX dX1_init_176 (by decide) ?_
  refine l_zast (ws' := [(h0, .inr (1, [.ref q1, .ref q2, .ref q3, .ref q4, .ref q5, .ref q6, .ref q7, .ref q8, .ref q9, .ref q10, .ref q11, .int (nI 16), .int 0])), (q1, .inl (G.2.1 0, 2048, .inl (cnt gk_kind 13))), (q2, .inl (G.2.1 0, 2048, .inl (fun _ => 0))), (q3, .inl (G.2.1 0, 2048, .inl (fun _ => 0))), (q4, .inl (G.2.1 0, 2048, .inl (cnt gk_one 13))), (q5, .inl (G.2.1 0, 2048, .inl (cnt gk_signs 13))), (q6, .inl (G.2.1 1, 2048, .inl (cnt gk_true 13))), (q7, .inl (G.2.1 2, 2048, .inl (cnt gk_first 12))), (q8, .inl (G.2.1 0, 8192, .inl (fun _ => 0))), (q9, .inl (G.2.1 0, 512, .inl (fun _ => 0))), (q10, .inl (G.2.1 0, 2048, .inl (fun _ => 0))), (q11, .inl (G.2.1 0, 2048, .inl (fun _ => 0)))]) hX 6 rfl (by unfold vp_in; decide) (cnt_s rfl (by decide)) rfl dX1_init_180 ?_
  refine l_aload_n hX (i := 0) rfl rfl dX1_init_181 ?_
  refine l_get hX 0 rfl fq_X1_31 rfl dX1_init_182 ?_
  refine l_iload_n hX (i := 1) rfl rfl dX1_init_185 ?_
  refine l_iload_n hX (i := 1) rfl rfl dX1_init_186 ?_
  refine l_bipush (v := (nI 10)) hX rfl dX1_init_187 ?_
  refine l_lt_f (tgt := 197) hX (by decide) dX1_init_189 (by decide) ?_
  refine l_bipush (v := (nI 45)) hX rfl dX1_init_192 ?_
  refine l_goto (tgt := 202) hX dX1_init_194 (by decide) ?_
  refine l_cast (ws' := [(h0, .inr (1, [.ref q1, .ref q2, .ref q3, .ref q4, .ref q5, .ref q6, .ref q7, .ref q8, .ref q9, .ref q10, .ref q11, .int (nI 16), .int 0])), (q1, .inl (G.2.1 0, 2048, .inl (cnt gk_kind 13))), (q2, .inl (G.2.1 0, 2048, .inl (fun _ => 0))), (q3, .inl (G.2.1 0, 2048, .inl (fun _ => 0))), (q4, .inl (G.2.1 0, 2048, .inl (cnt gk_one 13))), (q5, .inl (G.2.1 0, 2048, .inl (cnt gk_signs 13))), (q6, .inl (G.2.1 1, 2048, .inl (cnt gk_true 13))), (q7, .inl (G.2.1 2, 2048, .inl (cnt gk_first 13))), (q8, .inl (G.2.1 0, 8192, .inl (fun _ => 0))), (q9, .inl (G.2.1 0, 512, .inl (fun _ => 0))), (q10, .inl (G.2.1 0, 2048, .inl (fun _ => 0))), (q11, .inl (G.2.1 0, 2048, .inl (fun _ => 0)))]) hX 7 rfl (by unfold vp_in; decide) (cnt_s rfl (by decide)) rfl dX1_init_202 ?_
  refine l_iinc (v := (nI 13)) (L' := [some (.ref h0), some (.int (nI 13))]) hX (i := 1) rfl (by decide) (by decide) rfl dX1_init_203 ?_
  refine l_goto (tgt := 111) hX dX1_init_206 (by decide) ?_
  refine l_iload_n hX (i := 1) rfl rfl dX1_init_111 ?_
  refine l_bipush (v := (nI 16)) hX rfl dX1_init_112 ?_
  refine l_ge_f (tgt := 209) hX (by decide) dX1_init_114 (by decide) ?_
  refine l_aload_n hX (i := 0) rfl rfl dX1_init_117 ?_
  refine l_get hX 0 rfl fq_X1_9 rfl dX1_init_118 ?_
  refine l_iload_n hX (i := 1) rfl rfl dX1_init_121 ?_
  refine l_iload_n hX (i := 1) rfl rfl dX1_init_122 ?_
  refine l_iast (ws' := [(h0, .inr (1, [.ref q1, .ref q2, .ref q3, .ref q4, .ref q5, .ref q6, .ref q7, .ref q8, .ref q9, .ref q10, .ref q11, .int (nI 16), .int 0])), (q1, .inl (G.2.1 0, 2048, .inl (cnt gk_kind 14))), (q2, .inl (G.2.1 0, 2048, .inl (fun _ => 0))), (q3, .inl (G.2.1 0, 2048, .inl (fun _ => 0))), (q4, .inl (G.2.1 0, 2048, .inl (cnt gk_one 13))), (q5, .inl (G.2.1 0, 2048, .inl (cnt gk_signs 13))), (q6, .inl (G.2.1 1, 2048, .inl (cnt gk_true 13))), (q7, .inl (G.2.1 2, 2048, .inl (cnt gk_first 13))), (q8, .inl (G.2.1 0, 8192, .inl (fun _ => 0))), (q9, .inl (G.2.1 0, 512, .inl (fun _ => 0))), (q10, .inl (G.2.1 0, 2048, .inl (fun _ => 0))), (q11, .inl (G.2.1 0, 2048, .inl (fun _ => 0)))]) hX 1 rfl (by unfold vp_in; decide) (cnt_s rfl (by decide)) rfl dX1_init_123 ?_
  refine l_aload_n hX (i := 0) rfl rfl dX1_init_124 ?_
  refine l_get hX 0 rfl fq_X1_21 rfl dX1_init_125 ?_
  refine l_iload_n hX (i := 1) rfl rfl dX1_init_128 ?_
  refine l_iconst (v := (nI 1)) hX rfl dX1_init_129 ?_
  refine l_iast (ws' := [(h0, .inr (1, [.ref q1, .ref q2, .ref q3, .ref q4, .ref q5, .ref q6, .ref q7, .ref q8, .ref q9, .ref q10, .ref q11, .int (nI 16), .int 0])), (q1, .inl (G.2.1 0, 2048, .inl (cnt gk_kind 14))), (q2, .inl (G.2.1 0, 2048, .inl (fun _ => 0))), (q3, .inl (G.2.1 0, 2048, .inl (fun _ => 0))), (q4, .inl (G.2.1 0, 2048, .inl (cnt gk_one 14))), (q5, .inl (G.2.1 0, 2048, .inl (cnt gk_signs 13))), (q6, .inl (G.2.1 1, 2048, .inl (cnt gk_true 13))), (q7, .inl (G.2.1 2, 2048, .inl (cnt gk_first 13))), (q8, .inl (G.2.1 0, 8192, .inl (fun _ => 0))), (q9, .inl (G.2.1 0, 512, .inl (fun _ => 0))), (q10, .inl (G.2.1 0, 2048, .inl (fun _ => 0))), (q11, .inl (G.2.1 0, 2048, .inl (fun _ => 0)))]) hX 4 rfl (by unfold vp_in; decide) (cnt_s rfl (by decide)) rfl dX1_init_130 ?_
  refine l_aload_n hX (i := 0) rfl rfl dX1_init_131 ?_
  refine l_get hX 0 rfl fq_X1_24 rfl dX1_init_132 ?_
  refine l_iload_n hX (i := 1) rfl rfl dX1_init_135 ?_
  refine l_iload_n hX (i := 1) rfl rfl dX1_init_136 ?_
  refine l_iconst (v := (nI 4)) hX rfl dX1_init_137 ?_
  refine l_ge_t (tgt := 145) hX (by decide) dX1_init_138 (by decide) ?_
  refine l_iconst (v := (nI 1)) hX rfl dX1_init_145 ?_
  refine l_iload_n hX (i := 1) rfl rfl dX1_init_146 ?_
  refine l_iconst (v := (nI 4)) hX rfl dX1_init_147 ?_
  refine l_isub (v := (nI 9)) hX (by decide) dX1_init_148 ?_
  refine l_bipush (v := (nI 6)) hX rfl dX1_init_149 ?_
  refine l_irem (v := (nI 3)) hX (by decide) (by decide) dX1_init_151 ?_
  refine l_ishl (v := (nI 8)) hX (by decide) dX1_init_152 ?_
  refine l_iast (ws' := [(h0, .inr (1, [.ref q1, .ref q2, .ref q3, .ref q4, .ref q5, .ref q6, .ref q7, .ref q8, .ref q9, .ref q10, .ref q11, .int (nI 16), .int 0])), (q1, .inl (G.2.1 0, 2048, .inl (cnt gk_kind 14))), (q2, .inl (G.2.1 0, 2048, .inl (fun _ => 0))), (q3, .inl (G.2.1 0, 2048, .inl (fun _ => 0))), (q4, .inl (G.2.1 0, 2048, .inl (cnt gk_one 14))), (q5, .inl (G.2.1 0, 2048, .inl (cnt gk_signs 14))), (q6, .inl (G.2.1 1, 2048, .inl (cnt gk_true 13))), (q7, .inl (G.2.1 2, 2048, .inl (cnt gk_first 13))), (q8, .inl (G.2.1 0, 8192, .inl (fun _ => 0))), (q9, .inl (G.2.1 0, 512, .inl (fun _ => 0))), (q10, .inl (G.2.1 0, 2048, .inl (fun _ => 0))), (q11, .inl (G.2.1 0, 2048, .inl (fun _ => 0)))]) hX 5 rfl (by unfold vp_in; decide) (cnt_s rfl (by decide)) rfl dX1_init_153 ?_
  refine l_aload_n hX (i := 0) rfl rfl dX1_init_154 ?_
  refine l_get hX 0 rfl fq_X1_27 rfl dX1_init_155 ?_
  refine l_iload_n hX (i := 1) rfl rfl dX1_init_158 ?_
  refine l_iload_n hX (i := 1) rfl rfl dX1_init_159 ?_
  refine l_iconst (v := (nI 1)) hX rfl dX1_init_160 ?_
  refine l_eq_f (tgt := 175) hX (by decide) dX1_init_161 (by decide) ?_
  refine l_iload_n hX (i := 1) rfl rfl dX1_init_164 ?_
  refine l_iconst (v := (nI 3)) hX rfl dX1_init_165 ?_
  refine l_eq_f (tgt := 175) hX (by decide) dX1_init_166 (by decide) ?_
  refine l_iload_n hX (i := 1) rfl rfl dX1_init_169 ?_
  refine l_bipush (v := (nI 10)) hX rfl dX1_init_170 ?_
  refine l_lt_f (tgt := 179) hX (by decide) dX1_init_172 (by decide) ?_
  refine l_iconst (v := (nI 1)) hX rfl dX1_init_175 ?_
  refine l_goto (tgt := 180) hX dX1_init_176 (by decide) ?_
  refine l_zast (ws' := [(h0, .inr (1, [.ref q1, .ref q2, .ref q3, .ref q4, .ref q5, .ref q6, .ref q7, .ref q8, .ref q9, .ref q10, .ref q11, .int (nI 16), .int 0])), (q1, .inl (G.2.1 0, 2048, .inl (cnt gk_kind 14))), (q2, .inl (G.2.1 0, 2048, .inl (fun _ => 0))), (q3, .inl (G.2.1 0, 2048, .inl (fun _ => 0))), (q4, .inl (G.2.1 0, 2048, .inl (cnt gk_one 14))), (q5, .inl (G.2.1 0, 2048, .inl (cnt gk_signs 14))), (q6, .inl (G.2.1 1, 2048, .inl (cnt gk_true 14))), (q7, .inl (G.2.1 2, 2048, .inl (cnt gk_first 13))), (q8, .inl (G.2.1 0, 8192, .inl (fun _ => 0))), (q9, .inl (G.2.1 0, 512, .inl (fun _ => 0))), (q10, .inl (G.2.1 0, 2048, .inl (fun _ => 0))), (q11, .inl (G.2.1 0, 2048, .inl (fun _ => 0)))]) hX 6 rfl (by unfold vp_in; decide) (cnt_s rfl (by decide)) rfl dX1_init_180 ?_
  refine l_aload_n hX (i := 0) rfl rfl dX1_init_181 ?_
  refine l_get hX 0 rfl fq_X1_31 rfl dX1_init_182 ?_
  refine l_iload_n hX (i := 1) rfl rfl dX1_init_185 ?_
  refine l_iload_n hX (i := 1) rfl rfl dX1_init_186 ?_
  refine l_bipush (v := (nI 10)) hX rfl dX1_init_187 ?_
  refine l_lt_f (tgt := 197) hX (by decide) dX1_init_189 (by decide) ?_
  refine l_bipush (v := (nI 45)) hX rfl dX1_init_192 ?_
  refine l_goto (tgt := 202) hX dX1_init_194 (by decide) ?_
  refine l_cast (ws' := [(h0, .inr (1, [.ref q1, .ref q2, .ref q3, .ref q4, .ref q5, .ref q6, .ref q7, .ref q8, .ref q9, .ref q10, .ref q11, .int (nI 16), .int 0])), (q1, .inl (G.2.1 0, 2048, .inl (cnt gk_kind 14))), (q2, .inl (G.2.1 0, 2048, .inl (fun _ => 0))), (q3, .inl (G.2.1 0, 2048, .inl (fun _ => 0))), (q4, .inl (G.2.1 0, 2048, .inl (cnt gk_one 14))), (q5, .inl (G.2.1 0, 2048, .inl (cnt gk_signs 14))), (q6, .inl (G.2.1 1, 2048, .inl (cnt gk_true 14))), (q7, .inl (G.2.1 2, 2048, .inl (cnt gk_first 14))), (q8, .inl (G.2.1 0, 8192, .inl (fun _ => 0))), (q9, .inl (G.2.1 0, 512, .inl (fun _ => 0))), (q10, .inl (G.2.1 0, 2048, .inl (fun _ => 0))), (q11, .inl (G.2.1 0, 2048, .inl (fun _ => 0)))]) hX 7 rfl (by unfold vp_in; decide) (cnt_s rfl (by decide)) rfl dX1_init_202 ?_
  refine l_iinc (v := (nI 14)) (L' := [some (.ref h0), some (.int (nI 14))]) hX (i := 1) rfl (by decide) (by decide) rfl dX1_init_203 ?_
  refine l_goto (tgt := 111) hX dX1_init_206 (by decide) ?_
  refine l_iload_n hX (i := 1) rfl rfl dX1_init_111 ?_
  refine l_bipush (v := (nI 16)) hX rfl dX1_init_112 ?_
  refine l_ge_f (tgt := 209) hX (by decide) dX1_init_114 (by decide) ?_
  refine l_aload_n hX (i := 0) rfl rfl dX1_init_117 ?_
  refine l_get hX 0 rfl fq_X1_9 rfl dX1_init_118 ?_
  refine l_iload_n hX (i := 1) rfl rfl dX1_init_121 ?_
  refine l_iload_n hX (i := 1) rfl rfl dX1_init_122 ?_
  refine l_iast (ws' := [(h0, .inr (1, [.ref q1, .ref q2, .ref q3, .ref q4, .ref q5, .ref q6, .ref q7, .ref q8, .ref q9, .ref q10, .ref q11, .int (nI 16), .int 0])), (q1, .inl (G.2.1 0, 2048, .inl (cnt gk_kind 15))), (q2, .inl (G.2.1 0, 2048, .inl (fun _ => 0))), (q3, .inl (G.2.1 0, 2048, .inl (fun _ => 0))), (q4, .inl (G.2.1 0, 2048, .inl (cnt gk_one 14))), (q5, .inl (G.2.1 0, 2048, .inl (cnt gk_signs 14))), (q6, .inl (G.2.1 1, 2048, .inl (cnt gk_true 14))), (q7, .inl (G.2.1 2, 2048, .inl (cnt gk_first 14))), (q8, .inl (G.2.1 0, 8192, .inl (fun _ => 0))), (q9, .inl (G.2.1 0, 512, .inl (fun _ => 0))), (q10, .inl (G.2.1 0, 2048, .inl (fun _ => 0))), (q11, .inl (G.2.1 0, 2048, .inl (fun _ => 0)))]) hX 1 rfl (by unfold vp_in; decide) (cnt_s rfl (by decide)) rfl dX1_init_123 ?_
  refine l_aload_n hX (i := 0) rfl rfl dX1_init_124 ?_
  refine l_get hX 0 rfl fq_X1_21 rfl dX1_init_125 ?_
  refine l_iload_n hX (i := 1) rfl rfl dX1_init_128 ?_
  refine l_iconst (v := (nI 1)) hX rfl dX1_init_129 ?_
  refine l_iast (ws' := [(h0, .inr (1, [.ref q1, .ref q2, .ref q3, .ref q4, .ref q5, .ref q6, .ref q7, .ref q8, .ref q9, .ref q10, .ref q11, .int (nI 16), .int 0])), (q1, .inl (G.2.1 0, 2048, .inl (cnt gk_kind 15))), (q2, .inl (G.2.1 0, 2048, .inl (fun _ => 0))), (q3, .inl (G.2.1 0, 2048, .inl (fun _ => 0))), (q4, .inl (G.2.1 0, 2048, .inl (cnt gk_one 15))), (q5, .inl (G.2.1 0, 2048, .inl (cnt gk_signs 14))), (q6, .inl (G.2.1 1, 2048, .inl (cnt gk_true 14))), (q7, .inl (G.2.1 2, 2048, .inl (cnt gk_first 14))), (q8, .inl (G.2.1 0, 8192, .inl (fun _ => 0))), (q9, .inl (G.2.1 0, 512, .inl (fun _ => 0))), (q10, .inl (G.2.1 0, 2048, .inl (fun _ => 0))), (q11, .inl (G.2.1 0, 2048, .inl (fun _ => 0)))]) hX 4 rfl (by unfold vp_in; decide) (cnt_s rfl (by decide)) rfl dX1_init_130 ?_
  refine l_aload_n hX (i := 0) rfl rfl dX1_init_131 ?_
  refine l_get hX 0 rfl fq_X1_24 rfl dX1_init_132 ?_
  refine l_iload_n hX (i := 1) rfl rfl dX1_init_135 ?_
  refine l_iload_n hX (i := 1) rfl rfl dX1_init_136 ?_
  refine l_iconst (v := (nI 4)) hX rfl dX1_init_137 ?_
  refine l_ge_t (tgt := 145) hX (by decide) dX1_init_138 (by decide) ?_
  refine l_iconst (v := (nI 1)) hX rfl dX1_init_145 ?_
  refine l_iload_n hX (i := 1) rfl rfl dX1_init_146 ?_
  refine l_iconst (v := (nI 4)) hX rfl dX1_init_147 ?_
  refine l_isub (v := (nI 10)) hX (by decide) dX1_init_148 ?_
  refine l_bipush (v := (nI 6)) hX rfl dX1_init_149 ?_
  refine l_irem (v := (nI 4)) hX (by decide) (by decide) dX1_init_151 ?_
  refine l_ishl (v := (nI 16)) hX (by decide) dX1_init_152 ?_
  refine l_iast (ws' := [(h0, .inr (1, [.ref q1, .ref q2, .ref q3, .ref q4, .ref q5, .ref q6, .ref q7, .ref q8, .ref q9, .ref q10, .ref q11, .int (nI 16), .int 0])), (q1, .inl (G.2.1 0, 2048, .inl (cnt gk_kind 15))), (q2, .inl (G.2.1 0, 2048, .inl (fun _ => 0))), (q3, .inl (G.2.1 0, 2048, .inl (fun _ => 0))), (q4, .inl (G.2.1 0, 2048, .inl (cnt gk_one 15))), (q5, .inl (G.2.1 0, 2048, .inl (cnt gk_signs 15))), (q6, .inl (G.2.1 1, 2048, .inl (cnt gk_true 14))), (q7, .inl (G.2.1 2, 2048, .inl (cnt gk_first 14))), (q8, .inl (G.2.1 0, 8192, .inl (fun _ => 0))), (q9, .inl (G.2.1 0, 512, .inl (fun _ => 0))), (q10, .inl (G.2.1 0, 2048, .inl (fun _ => 0))), (q11, .inl (G.2.1 0, 2048, .inl (fun _ => 0)))]) hX 5 rfl (by unfold vp_in; decide) (cnt_s rfl (by decide)) rfl dX1_init_153 ?_
  refine l_aload_n hX (i := 0) rfl rfl dX1_init_154 ?_
  refine l_get hX 0 rfl fq_X1_27 rfl dX1_init_155 ?_
  refine l_iload_n hX (i := 1) rfl rfl dX1_init_158 ?_
  refine l_iload_n hX (i := 1) rfl rfl dX1_init_159 ?_
  refine l_iconst (v := (nI 1)) hX rfl dX1_init_160 ?_
  refine l_eq_f (tgt := 175) hX (by decide) dX1_init_161 (by decide) ?_
  refine l_iload_n hX (i := 1) rfl rfl dX1_init_164 ?_
  refine l_iconst (v := (nI 3)) hX rfl dX1_init_165 ?_
  refine l_eq_f (tgt := 175) hX (by decide) dX1_init_166 (by decide) ?_
  refine l_iload_n hX (i := 1) rfl rfl dX1_init_169 ?_
  refine l_bipush (v := (nI 10)) hX rfl dX1_init_170 ?_
  refine l_lt_f (tgt := 179) hX (by decide) dX1_init_172 (by decide) ?_
  refine l_iconst (v := (nI 1)) hX rfl dX1_init_175 ?_
  refine l_goto (tgt := 180) hX dX1_init_176 (by decide) ?_
  refine l_zast (ws' := [(h0, .inr (1, [.ref q1, .ref q2, .ref q3, .ref q4, .ref q5, .ref q6, .ref q7, .ref q8, .ref q9, .ref q10, .ref q11, .int (nI 16), .int 0])), (q1, .inl (G.2.1 0, 2048, .inl (cnt gk_kind 15))), (q2, .inl (G.2.1 0, 2048, .inl (fun _ => 0))), (q3, .inl (G.2.1 0, 2048, .inl (fun _ => 0))), (q4, .inl (G.2.1 0, 2048, .inl (cnt gk_one 15))), (q5, .inl (G.2.1 0, 2048, .inl (cnt gk_signs 15))), (q6, .inl (G.2.1 1, 2048, .inl (cnt gk_true 15))), (q7, .inl (G.2.1 2, 2048, .inl (cnt gk_first 14))), (q8, .inl (G.2.1 0, 8192, .inl (fun _ => 0))), (q9, .inl (G.2.1 0, 512, .inl (fun _ => 0))), (q10, .inl (G.2.1 0, 2048, .inl (fun _ => 0))), (q11, .inl (G.2.1 0, 2048, .inl (fun _ => 0)))]) hX 6 rfl (by unfold vp_in; decide) (cnt_s rfl (by decide)) rfl dX1_init_180 ?_
  refine l_aload_n hX (i := 0) rfl rfl dX1_init_181 ?_
  refine l_get hX 0 rfl fq_X1_31 rfl dX1_init_182 ?_
  refine l_iload_n hX (i := 1) rfl rfl dX1_init_185 ?_
  refine l_iload_n hX (i := 1) rfl rfl dX1_init_186 ?_
  refine l_bipush (v := (nI 10)) hX rfl dX1_init_187 ?_
  refine l_lt_f (tgt := 197) hX (by decide) dX1_init_189 (by decide) ?_
  refine l_bipush (v := (nI 45)) hX rfl dX1_init_192 ?_
  refine l_goto (tgt := 202) hX dX1_init_194 (by decide) ?_
  refine l_cast (ws' := [(h0, .inr (1, [.ref q1, .ref q2, .ref q3, .ref q4, .ref q5, .ref q6, .ref q7, .ref q8, .ref q9, .ref q10, .ref q11, .int (nI 16), .int 0])), (q1, .inl (G.2.1 0, 2048, .inl (cnt gk_kind 15))), (q2, .inl (G.2.1 0, 2048, .inl (fun _ => 0))), (q3, .inl (G.2.1 0, 2048, .inl (fun _ => 0))), (q4, .inl (G.2.1 0, 2048, .inl (cnt gk_one 15))), (q5, .inl (G.2.1 0, 2048, .inl (cnt gk_signs 15))), (q6, .inl (G.2.1 1, 2048, .inl (cnt gk_true 15))), (q7, .inl (G.2.1 2, 2048, .inl (cnt gk_first 15))), (q8, .inl (G.2.1 0, 8192, .inl (fun _ => 0))), (q9, .inl (G.2.1 0, 512, .inl (fun _ => 0))), (q10, .inl (G.2.1 0, 2048, .inl (fun _ => 0))), (q11, .inl (G.2.1 0, 2048, .inl (fun _ => 0)))]) hX 7 rfl (by unfold vp_in; decide) (cnt_s rfl (by decide)) rfl dX1_init_202 ?_
  refine l_iinc (v := (nI 15)) (L' := [some (.ref h0), some (.int (nI 15))]) hX (i := 1) rfl (by decide) (by decide) rfl dX1_init_203 ?_
  refine l_goto (tgt := 111) hX dX1_init_206 (by decide) ?_
  refine l_iload_n hX (i := 1) rfl rfl dX1_init_111 ?_
  refine l_bipush (v := (nI 16)) hX rfl dX1_init_112 ?_
  refine l_ge_f (tgt := 209) hX (by decide) dX1_init_114 (by decide) ?_
  refine l_aload_n hX (i := 0) rfl rfl dX1_init_117 ?_
  refine l_get hX 0 rfl fq_X1_9 rfl dX1_init_118 ?_
  refine l_iload_n hX (i := 1) rfl rfl dX1_init_121 ?_
  refine l_iload_n hX (i := 1) rfl rfl dX1_init_122 ?_
  refine l_iast (ws' := [(h0, .inr (1, [.ref q1, .ref q2, .ref q3, .ref q4, .ref q5, .ref q6, .ref q7, .ref q8, .ref q9, .ref q10, .ref q11, .int (nI 16), .int 0])), (q1, .inl (G.2.1 0, 2048, .inl (cnt gk_kind 16))), (q2, .inl (G.2.1 0, 2048, .inl (fun _ => 0))), (q3, .inl (G.2.1 0, 2048, .inl (fun _ => 0))), (q4, .inl (G.2.1 0, 2048, .inl (cnt gk_one 15))), (q5, .inl (G.2.1 0, 2048, .inl (cnt gk_signs 15))), (q6, .inl (G.2.1 1, 2048, .inl (cnt gk_true 15))), (q7, .inl (G.2.1 2, 2048, .inl (cnt gk_first 15))), (q8, .inl (G.2.1 0, 8192, .inl (fun _ => 0))), (q9, .inl (G.2.1 0, 512, .inl (fun _ => 0))), (q10, .inl (G.2.1 0, 2048, .inl (fun _ => 0))), (q11, .inl (G.2.1 0, 2048, .inl (fun _ => 0)))]) hX 1 rfl (by unfold vp_in; decide) (cnt_s rfl (by decide)) rfl dX1_init_123 ?_
  refine l_aload_n hX (i := 0) rfl rfl dX1_init_124 ?_
  refine l_get hX 0 rfl fq_X1_21 rfl dX1_init_125 ?_
  refine l_iload_n hX (i := 1) rfl rfl dX1_init_128 ?_
  refine l_iconst (v := (nI 1)) hX rfl dX1_init_129 ?_
  refine l_iast (ws' := [(h0, .inr (1, [.ref q1, .ref q2, .ref q3, .ref q4, .ref q5, .ref q6, .ref q7, .ref q8, .ref q9, .ref q10, .ref q11, .int (nI 16), .int 0])), (q1, .inl (G.2.1 0, 2048, .inl (cnt gk_kind 16))), (q2, .inl (G.2.1 0, 2048, .inl (fun _ => 0))), (q3, .inl (G.2.1 0, 2048, .inl (fun _ => 0))), (q4, .inl (G.2.1 0, 2048, .inl (cnt gk_one 16))), (q5, .inl (G.2.1 0, 2048, .inl (cnt gk_signs 15))), (q6, .inl (G.2.1 1, 2048, .inl (cnt gk_true 15))), (q7, .inl (G.2.1 2, 2048, .inl (cnt gk_first 15))), (q8, .inl (G.2.1 0, 8192, .inl (fun _ => 0))), (q9, .inl (G.2.1 0, 512, .inl (fun _ => 0))), (q10, .inl (G.2.1 0, 2048, .inl (fun _ => 0))), (q11, .inl (G.2.1 0, 2048, .inl (fun _ => 0)))]) hX 4 rfl (by unfold vp_in; decide) (cnt_s rfl (by decide)) rfl dX1_init_130 ?_
  refine l_aload_n hX (i := 0) rfl rfl dX1_init_131 ?_
  refine l_get hX 0 rfl fq_X1_24 rfl dX1_init_132 ?_
  refine l_iload_n hX (i := 1) rfl rfl dX1_init_135 ?_
  refine l_iload_n hX (i := 1) rfl rfl dX1_init_136 ?_
  refine l_iconst (v := (nI 4)) hX rfl dX1_init_137 ?_
  refine l_ge_t (tgt := 145) hX (by decide) dX1_init_138 (by decide) ?_
  refine l_iconst (v := (nI 1)) hX rfl dX1_init_145 ?_
  refine l_iload_n hX (i := 1) rfl rfl dX1_init_146 ?_
  refine l_iconst (v := (nI 4)) hX rfl dX1_init_147 ?_
  refine l_isub (v := (nI 11)) hX (by decide) dX1_init_148 ?_
  refine l_bipush (v := (nI 6)) hX rfl dX1_init_149 ?_
  refine l_irem (v := (nI 5)) hX (by decide) (by decide) dX1_init_151 ?_
  refine l_ishl (v := (nI 32)) hX (by decide) dX1_init_152 ?_
  refine l_iast (ws' := [(h0, .inr (1, [.ref q1, .ref q2, .ref q3, .ref q4, .ref q5, .ref q6, .ref q7, .ref q8, .ref q9, .ref q10, .ref q11, .int (nI 16), .int 0])), (q1, .inl (G.2.1 0, 2048, .inl (cnt gk_kind 16))), (q2, .inl (G.2.1 0, 2048, .inl (fun _ => 0))), (q3, .inl (G.2.1 0, 2048, .inl (fun _ => 0))), (q4, .inl (G.2.1 0, 2048, .inl (cnt gk_one 16))), (q5, .inl (G.2.1 0, 2048, .inl (cnt gk_signs 16))), (q6, .inl (G.2.1 1, 2048, .inl (cnt gk_true 15))), (q7, .inl (G.2.1 2, 2048, .inl (cnt gk_first 15))), (q8, .inl (G.2.1 0, 8192, .inl (fun _ => 0))), (q9, .inl (G.2.1 0, 512, .inl (fun _ => 0))), (q10, .inl (G.2.1 0, 2048, .inl (fun _ => 0))), (q11, .inl (G.2.1 0, 2048, .inl (fun _ => 0)))]) hX 5 rfl (by unfold vp_in; decide) (cnt_s rfl (by decide)) rfl dX1_init_153 ?_
  refine l_aload_n hX (i := 0) rfl rfl dX1_init_154 ?_
  refine l_get hX 0 rfl fq_X1_27 rfl dX1_init_155 ?_
  refine l_iload_n hX (i := 1) rfl rfl dX1_init_158 ?_
  refine l_iload_n hX (i := 1) rfl rfl dX1_init_159 ?_
  refine l_iconst (v := (nI 1)) hX rfl dX1_init_160 ?_
  refine l_eq_f (tgt := 175) hX (by decide) dX1_init_161 (by decide) ?_
  refine l_iload_n hX (i := 1) rfl rfl dX1_init_164 ?_
  refine l_iconst (v := (nI 3)) hX rfl dX1_init_165 ?_
  refine l_eq_f (tgt := 175) hX (by decide) dX1_init_166 (by decide) ?_
  refine l_iload_n hX (i := 1) rfl rfl dX1_init_169 ?_
  refine l_bipush (v := (nI 10)) hX rfl dX1_init_170 ?_
  refine l_lt_f (tgt := 179) hX (by decide) dX1_init_172 (by decide) ?_
  refine l_iconst (v := (nI 1)) hX rfl dX1_init_175 ?_
  refine l_goto (tgt := 180) hX dX1_init_176 (by decide) ?_
  refine l_zast (ws' := [(h0, .inr (1, [.ref q1, .ref q2, .ref q3, .ref q4, .ref q5, .ref q6, .ref q7, .ref q8, .ref q9, .ref q10, .ref q11, .int (nI 16), .int 0])), (q1, .inl (G.2.1 0, 2048, .inl (cnt gk_kind 16))), (q2, .inl (G.2.1 0, 2048, .inl (fun _ => 0))), (q3, .inl (G.2.1 0, 2048, .inl (fun _ => 0))), (q4, .inl (G.2.1 0, 2048, .inl (cnt gk_one 16))), (q5, .inl (G.2.1 0, 2048, .inl (cnt gk_signs 16))), (q6, .inl (G.2.1 1, 2048, .inl (cnt gk_true 16))), (q7, .inl (G.2.1 2, 2048, .inl (cnt gk_first 15))), (q8, .inl (G.2.1 0, 8192, .inl (fun _ => 0))), (q9, .inl (G.2.1 0, 512, .inl (fun _ => 0))), (q10, .inl (G.2.1 0, 2048, .inl (fun _ => 0))), (q11, .inl (G.2.1 0, 2048, .inl (fun _ => 0)))]) hX 6 rfl (by unfold vp_in; decide) (cnt_s rfl (by decide)) rfl dX1_init_180 ?_
  refine l_aload_n hX (i := 0) rfl rfl dX1_init_181 ?_
  refine l_get hX 0 rfl fq_X1_31 rfl dX1_init_182 ?_
  refine l_iload_n hX (i := 1) rfl rfl dX1_init_185 ?_
  refine l_iload_n hX (i := 1) rfl rfl dX1_init_186 ?_
  refine l_bipush (v := (nI 10)) hX rfl dX1_init_187 ?_
  refine l_lt_f (tgt := 197) hX (by decide) dX1_init_189 (by decide) ?_
  refine l_bipush (v := (nI 45)) hX rfl dX1_init_192 ?_
  refine l_goto (tgt := 202) hX dX1_init_194 (by decide) ?_
  refine l_cast (ws' := [(h0, .inr (1, [.ref q1, .ref q2, .ref q3, .ref q4, .ref q5, .ref q6, .ref q7, .ref q8, .ref q9, .ref q10, .ref q11, .int (nI 16), .int 0])), (q1, .inl (G.2.1 0, 2048, .inl (cnt gk_kind 16))), (q2, .inl (G.2.1 0, 2048, .inl (fun _ => 0))), (q3, .inl (G.2.1 0, 2048, .inl (fun _ => 0))), (q4, .inl (G.2.1 0, 2048, .inl (cnt gk_one 16))), (q5, .inl (G.2.1 0, 2048, .inl (cnt gk_signs 16))), (q6, .inl (G.2.1 1, 2048, .inl (cnt gk_true 16))), (q7, .inl (G.2.1 2, 2048, .inl (cnt gk_first 16))), (q8, .inl (G.2.1 0, 8192, .inl (fun _ => 0))), (q9, .inl (G.2.1 0, 512, .inl (fun _ => 0))), (q10, .inl (G.2.1 0, 2048, .inl (fun _ => 0))), (q11, .inl (G.2.1 0, 2048, .inl (fun _ => 0)))]) hX 7 rfl (by unfold vp_in; decide) (cnt_s rfl (by decide)) rfl dX1_init_202 ?_
  refine l_iinc (v := (nI 16)) (L' := [some (.ref h0), some (.int (nI 16))]) hX (i := 1) rfl (by decide) (by decide) rfl dX1_init_203 ?_
  refine l_goto (tgt := 111) hX dX1_init_206 (by decide) ?_
  refine l_iload_n hX (i := 1) rfl rfl dX1_init_111 ?_
  refine l_bipush (v := (nI 16)) hX rfl dX1_init_112 ?_
  refine l_ge_t (tgt := 209) hX (by decide) dX1_init_114 (by decide) ?_
  exact l_vret hX hr (⟨fun j => ([h0, q1, q2, q3, q4, q5, q6, q7, q8, q9, q10, q11] : List Nat).getD j 0, rfl, rfl⟩) dX1_init_209
theorem fq_X0_9 : FQk RX0 9 0 1 (.array .int) true := ⟨RX0, TX0, 7, tyX0, rfl, inb_X0, by decide, tyX0_ok, nmX0, rfl, rfl, by decide +kernel, (mem_big 137 (by decide +kernel) rfl)⟩
theorem fq_X0_15 : FQk RX0 15 0 2 (.array .int) true := ⟨RX0, TX0, 7, tyX0, rfl, inb_X0, by decide, tyX0_ok, nmX0, rfl, rfl, by decide +kernel, (mem_big 138 (by decide +kernel) rfl)⟩
theorem fq_X0_18 : FQk RX0 18 0 3 (.array .int) true := ⟨RX0, TX0, 7, tyX0, rfl, inb_X0, by decide, tyX0_ok, nmX0, rfl, rfl, by decide +kernel, (mem_big 139 (by decide +kernel) rfl)⟩
theorem fq_X0_21 : FQk RX0 21 0 0 (.object "TimeWishes$Forms") true := ⟨RX0, TX0, 7, tyX0, rfl, inb_X0, by decide, tyX0_ok, nmX0, rfl, rfl, by decide +kernel, (mem_big 136 (by decide +kernel) rfl)⟩
def chL (G : GL) (e : Nat → Nat) (p1 : Nat) : va_W := [((e 0), .inr (0, [.ref p1, .ref (e 1), .ref (e 2), .ref (e 3), .int 0, .int 0, .int 0])), ((e 1), .inl (G.2.1 0, 2048, .inl (fun _ => 0))), ((e 2), .inl (G.2.1 0, 2048, .inl (fun _ => 0))), ((e 3), .inl (G.2.1 0, 2, .inl (fun _ => 0)))]
set_option maxHeartbeats 40000000 in
set_option maxRecDepth 100000 in
theorem ct_X0_init {l : Launch} {G : GL} {h0 : Nat} {p1 : Nat} : CtL l G yX0_init cX0_init 2 1 12 3 4098 [.ref h0, .ref p1] ([(h0, .inr (0, [.null, .null, .null, .null, .int 0, .int 0, .int 0]))]) (fun w1 => ∃ e : Nat → Nat, e 0 = h0 ∧ w1 = chL G e p1) := by
  refine ctL_of (L := [some (.ref h0), some (.ref p1)]) (by decide +kernel) (List.forall_mem_cons.mpr ⟨rfl, (List.forall_mem_cons.mpr ⟨rfl, (fun _ h => absurd h List.not_mem_nil)⟩)⟩) (Nat.le_of_ble_eq_true rfl) (fun i v h => by
    match i with
    | 0 => exact (Option.some.inj h ▸ rfl)
    | 1 => exact (Option.some.inj h ▸ rfl)
    | j + 2 => exact absurd h (by rcases j with _ | _ | _ | _ | _ | j <;> simp)) ?_
  intro X sz hsz hX hi hr
  refine l_aload_n hX (i := 0) rfl rfl dX0_init_0 ?_
  refine l_objInit hX (mem_big 135 (by decide +kernel) rfl) (mem_big 66 (by decide +kernel) rfl) (mem_big 67 (by decide +kernel) rfl) dX0_init_1 (Nat.le_of_ble_eq_true rfl) (Nat.le_of_ble_eq_true rfl) ?_
  refine l_aload_n hX (i := 0) rfl rfl dX0_init_4 ?_
  refine l_sipush (v := (nI 2048)) hX rfl dX0_init_5 ?_
  refine l_newa (N := 2048) (t := 0) hX (mem_big 127 (by decide +kernel) rfl) rfl rfl rfl (by decide) (by decide) (Nat.le_of_ble_eq_true rfl) (Nat.le_of_ble_eq_true rfl) (Nat.le_of_ble_eq_true rfl) dX0_init_8 (fun q1 => ?_)
  refine KL.world (ws' := [(h0, .inr (0, [.null, .null, .null, .null, .int 0, .int 0, .int 0])), (q1, .inl (G.2.1 0, 2048, .inl (fun _ => 0)))]) rfl ?_
  refine l_put (ws' := [(h0, .inr (0, [.null, .ref q1, .null, .null, .int 0, .int 0, .int 0])), (q1, .inl (G.2.1 0, 2048, .inl (fun _ => 0)))]) hX 0 rfl fq_X0_9 (fun _ => hi) rfl rfl (Nat.le_of_ble_eq_true rfl) rfl dX0_init_10 ?_
  refine l_aload_n hX (i := 0) rfl rfl dX0_init_13 ?_
  refine l_sipush (v := (nI 2048)) hX rfl dX0_init_14 ?_
  refine l_newa (N := 2048) (t := 0) hX (mem_big 127 (by decide +kernel) rfl) rfl rfl rfl (by decide) (by decide) (Nat.le_of_ble_eq_true rfl) (Nat.le_of_ble_eq_true rfl) (Nat.le_of_ble_eq_true rfl) dX0_init_17 (fun q2 => ?_)
  refine KL.world (ws' := [(h0, .inr (0, [.null, .ref q1, .null, .null, .int 0, .int 0, .int 0])), (q1, .inl (G.2.1 0, 2048, .inl (fun _ => 0))), (q2, .inl (G.2.1 0, 2048, .inl (fun _ => 0)))]) rfl ?_
  refine l_put (ws' := [(h0, .inr (0, [.null, .ref q1, .ref q2, .null, .int 0, .int 0, .int 0])), (q1, .inl (G.2.1 0, 2048, .inl (fun _ => 0))), (q2, .inl (G.2.1 0, 2048, .inl (fun _ => 0)))]) hX 0 rfl fq_X0_15 (fun _ => hi) rfl rfl (Nat.le_of_ble_eq_true rfl) rfl dX0_init_19 ?_
  refine l_aload_n hX (i := 0) rfl rfl dX0_init_22 ?_
  refine l_iconst (v := (nI 2)) hX rfl dX0_init_23 ?_
  refine l_newa (N := 2) (t := 0) hX (mem_big 127 (by decide +kernel) rfl) rfl rfl rfl (by decide) (by decide) (Nat.le_of_ble_eq_true rfl) (Nat.le_of_ble_eq_true rfl) (Nat.le_of_ble_eq_true rfl) dX0_init_24 (fun q3 => ?_)
  refine KL.world (ws' := [(h0, .inr (0, [.null, .ref q1, .ref q2, .null, .int 0, .int 0, .int 0])), (q1, .inl (G.2.1 0, 2048, .inl (fun _ => 0))), (q2, .inl (G.2.1 0, 2048, .inl (fun _ => 0))), (q3, .inl (G.2.1 0, 2, .inl (fun _ => 0)))]) rfl ?_
  refine l_put (ws' := [(h0, .inr (0, [.null, .ref q1, .ref q2, .ref q3, .int 0, .int 0, .int 0])), (q1, .inl (G.2.1 0, 2048, .inl (fun _ => 0))), (q2, .inl (G.2.1 0, 2048, .inl (fun _ => 0))), (q3, .inl (G.2.1 0, 2, .inl (fun _ => 0)))]) hX 0 rfl fq_X0_18 (fun _ => hi) rfl rfl (Nat.le_of_ble_eq_true rfl) rfl dX0_init_26 ?_
  refine l_aload_n hX (i := 0) rfl rfl dX0_init_29 ?_
  refine l_aload_n hX (i := 1) rfl rfl dX0_init_30 ?_
  refine l_put (ws' := [(h0, .inr (0, [.ref p1, .ref q1, .ref q2, .ref q3, .int 0, .int 0, .int 0])), (q1, .inl (G.2.1 0, 2048, .inl (fun _ => 0))), (q2, .inl (G.2.1 0, 2048, .inl (fun _ => 0))), (q3, .inl (G.2.1 0, 2, .inl (fun _ => 0)))]) hX 0 rfl fq_X0_21 (fun _ => hi) rfl rfl (Nat.le_of_ble_eq_true rfl) rfl dX0_init_31 ?_
  exact l_vret hX hr (⟨fun j => ([h0, q1, q2, q3] : List Nat).getD j 0, rfl, rfl⟩) dX0_init_34
theorem fq_X3_9 : FQk RX3 9 3 1 (.array .int) true := ⟨RX3, TX3, 7, tyX3, rfl, inb_X3, by decide, tyX3_ok, nmX3, rfl, rfl, by decide +kernel, (mem_big 165 (by decide +kernel) rfl)⟩
theorem fq_X3_15 : FQk RX3 15 3 2 (.array .char) true := ⟨RX3, TX3, 7, tyX3, rfl, inb_X3, by decide, tyX3_ok, nmX3, rfl, rfl, by decide +kernel, (mem_big 166 (by decide +kernel) rfl)⟩
theorem fq_X3_19 : FQk RX3 19 3 3 (.array .char) true := ⟨RX3, TX3, 7, tyX3, rfl, inb_X3, by decide, tyX3_ok, nmX3, rfl, rfl, by decide +kernel, (mem_big 168 (by decide +kernel) rfl)⟩
theorem fq_X3_22 : FQk RX3 22 3 4 (.array .int) true := ⟨RX3, TX3, 7, tyX3, rfl, inb_X3, by decide, tyX3_ok, nmX3, rfl, rfl, by decide +kernel, (mem_big 169 (by decide +kernel) rfl)⟩
theorem fq_X3_25 : FQk RX3 25 3 0 (.object "TimeWishes$Forms") true := ⟨RX3, TX3, 7, tyX3, rfl, inb_X3, by decide, tyX3_ok, nmX3, rfl, rfl, by decide +kernel, (mem_big 164 (by decide +kernel) rfl)⟩
def scL (G : GL) (e : Nat → Nat) (p1 : Nat) : va_W := [((e 0), .inr (3, [.ref p1, .ref (e 1), .ref (e 2), .ref (e 3), .ref (e 4), .int 0, .int 0])), ((e 1), .inl (G.2.1 0, 120, .inl (fun _ => 0))), ((e 2), .inl (G.2.1 2, 360, .inl (fun _ => 0))), ((e 3), .inl (G.2.1 2, 120, .inl (fun _ => 0))), ((e 4), .inl (G.2.1 0, 120, .inl (fun _ => 0)))]
set_option maxHeartbeats 40000000 in
set_option maxRecDepth 100000 in
theorem ct_X3_init {l : Launch} {G : GL} {h0 : Nat} {p1 : Nat} : CtL l G yX3_init cX3_init 2 1 12 4 720 [.ref h0, .ref p1] ([(h0, .inr (3, [.null, .null, .null, .null, .null, .int 0, .int 0]))]) (fun w1 => ∃ e : Nat → Nat, e 0 = h0 ∧ w1 = scL G e p1) := by
  refine ctL_of (L := [some (.ref h0), some (.ref p1)]) (by decide +kernel) (List.forall_mem_cons.mpr ⟨rfl, (List.forall_mem_cons.mpr ⟨rfl, (fun _ h => absurd h List.not_mem_nil)⟩)⟩) (Nat.le_of_ble_eq_true rfl) (fun i v h => by
    match i with
    | 0 => exact (Option.some.inj h ▸ rfl)
    | 1 => exact (Option.some.inj h ▸ rfl)
    | j + 2 => exact absurd h (by rcases j with _ | _ | _ | _ | _ | j <;> simp)) ?_
  intro X sz hsz hX hi hr
  refine l_aload_n hX (i := 0) rfl rfl dX3_init_0 ?_
  refine l_objInit hX (mem_big 163 (by decide +kernel) rfl) (mem_big 66 (by decide +kernel) rfl) (mem_big 67 (by decide +kernel) rfl) dX3_init_1 (Nat.le_of_ble_eq_true rfl) (Nat.le_of_ble_eq_true rfl) ?_
  refine l_aload_n hX (i := 0) rfl rfl dX3_init_4 ?_
  refine l_bipush (v := (nI 120)) hX rfl dX3_init_5 ?_
  refine l_newa (N := 120) (t := 0) hX (mem_big 127 (by decide +kernel) rfl) rfl rfl rfl (by decide) (by decide) (Nat.le_of_ble_eq_true rfl) (Nat.le_of_ble_eq_true rfl) (Nat.le_of_ble_eq_true rfl) dX3_init_7 (fun q1 => ?_)
  refine KL.world (ws' := [(h0, .inr (3, [.null, .null, .null, .null, .null, .int 0, .int 0])), (q1, .inl (G.2.1 0, 120, .inl (fun _ => 0)))]) rfl ?_
  refine l_put (ws' := [(h0, .inr (3, [.null, .ref q1, .null, .null, .null, .int 0, .int 0])), (q1, .inl (G.2.1 0, 120, .inl (fun _ => 0)))]) hX 0 rfl fq_X3_9 (fun _ => hi) rfl rfl (Nat.le_of_ble_eq_true rfl) rfl dX3_init_9 ?_
  refine l_aload_n hX (i := 0) rfl rfl dX3_init_12 ?_
  refine l_sipush (v := (nI 360)) hX rfl dX3_init_13 ?_
  refine l_newa (N := 360) (t := 2) hX (mem_big 129 (by decide +kernel) rfl) rfl rfl rfl (by decide) (by decide) (Nat.le_of_ble_eq_true rfl) (Nat.le_of_ble_eq_true rfl) (Nat.le_of_ble_eq_true rfl) dX3_init_16 (fun q2 => ?_)
  refine KL.world (ws' := [(h0, .inr (3, [.null, .ref q1, .null, .null, .null, .int 0, .int 0])), (q1, .inl (G.2.1 0, 120, .inl (fun _ => 0))), (q2, .inl (G.2.1 2, 360, .inl (fun _ => 0)))]) rfl ?_
  refine l_put (ws' := [(h0, .inr (3, [.null, .ref q1, .ref q2, .null, .null, .int 0, .int 0])), (q1, .inl (G.2.1 0, 120, .inl (fun _ => 0))), (q2, .inl (G.2.1 2, 360, .inl (fun _ => 0)))]) hX 0 rfl fq_X3_15 (fun _ => hi) rfl rfl (Nat.le_of_ble_eq_true rfl) rfl dX3_init_18 ?_
  refine l_aload_n hX (i := 0) rfl rfl dX3_init_21 ?_
  refine l_bipush (v := (nI 120)) hX rfl dX3_init_22 ?_
  refine l_newa (N := 120) (t := 2) hX (mem_big 129 (by decide +kernel) rfl) rfl rfl rfl (by decide) (by decide) (Nat.le_of_ble_eq_true rfl) (Nat.le_of_ble_eq_true rfl) (Nat.le_of_ble_eq_true rfl) dX3_init_24 (fun q3 => ?_)
  refine KL.world (ws' := [(h0, .inr (3, [.null, .ref q1, .ref q2, .null, .null, .int 0, .int 0])), (q1, .inl (G.2.1 0, 120, .inl (fun _ => 0))), (q2, .inl (G.2.1 2, 360, .inl (fun _ => 0))), (q3, .inl (G.2.1 2, 120, .inl (fun _ => 0)))]) rfl ?_
  refine l_put (ws' := [(h0, .inr (3, [.null, .ref q1, .ref q2, .ref q3, .null, .int 0, .int 0])), (q1, .inl (G.2.1 0, 120, .inl (fun _ => 0))), (q2, .inl (G.2.1 2, 360, .inl (fun _ => 0))), (q3, .inl (G.2.1 2, 120, .inl (fun _ => 0)))]) hX 0 rfl fq_X3_19 (fun _ => hi) rfl rfl (Nat.le_of_ble_eq_true rfl) rfl dX3_init_26 ?_
  refine l_aload_n hX (i := 0) rfl rfl dX3_init_29 ?_
  refine l_bipush (v := (nI 120)) hX rfl dX3_init_30 ?_
  refine l_newa (N := 120) (t := 0) hX (mem_big 127 (by decide +kernel) rfl) rfl rfl rfl (by decide) (by decide) (Nat.le_of_ble_eq_true rfl) (Nat.le_of_ble_eq_true rfl) (Nat.le_of_ble_eq_true rfl) dX3_init_32 (fun q4 => ?_)
  refine KL.world (ws' := [(h0, .inr (3, [.null, .ref q1, .ref q2, .ref q3, .null, .int 0, .int 0])), (q1, .inl (G.2.1 0, 120, .inl (fun _ => 0))), (q2, .inl (G.2.1 2, 360, .inl (fun _ => 0))), (q3, .inl (G.2.1 2, 120, .inl (fun _ => 0))), (q4, .inl (G.2.1 0, 120, .inl (fun _ => 0)))]) rfl ?_
  refine l_put (ws' := [(h0, .inr (3, [.null, .ref q1, .ref q2, .ref q3, .ref q4, .int 0, .int 0])), (q1, .inl (G.2.1 0, 120, .inl (fun _ => 0))), (q2, .inl (G.2.1 2, 360, .inl (fun _ => 0))), (q3, .inl (G.2.1 2, 120, .inl (fun _ => 0))), (q4, .inl (G.2.1 0, 120, .inl (fun _ => 0)))]) hX 0 rfl fq_X3_22 (fun _ => hi) rfl rfl (Nat.le_of_ble_eq_true rfl) rfl dX3_init_34 ?_
  refine l_aload_n hX (i := 0) rfl rfl dX3_init_37 ?_
  refine l_aload_n hX (i := 1) rfl rfl dX3_init_38 ?_
  refine l_put (ws' := [(h0, .inr (3, [.ref p1, .ref q1, .ref q2, .ref q3, .ref q4, .int 0, .int 0])), (q1, .inl (G.2.1 0, 120, .inl (fun _ => 0))), (q2, .inl (G.2.1 2, 360, .inl (fun _ => 0))), (q3, .inl (G.2.1 2, 120, .inl (fun _ => 0))), (q4, .inl (G.2.1 0, 120, .inl (fun _ => 0)))]) hX 0 rfl fq_X3_25 (fun _ => hi) rfl rfl (Nat.le_of_ble_eq_true rfl) rfl dX3_init_39 ?_
  exact l_vret hX hr (⟨fun j => ([h0, q1, q2, q3, q4] : List Nat).getD j 0, rfl, rfl⟩) dX3_init_42
theorem fq_X2_9 : FQk RX2 9 2 2 (.array .char) true := ⟨RX2, TX2, 8, tyX2, rfl, inb_X2, by decide, tyX2_ok, nmX2, rfl, rfl, by decide +kernel, (mem_big 195 (by decide +kernel) rfl)⟩
theorem fq_X2_15 : FQk RX2 15 2 3 (.array .int) true := ⟨RX2, TX2, 8, tyX2, rfl, inb_X2, by decide, tyX2_ok, nmX2, rfl, rfl, by decide +kernel, (mem_big 196 (by decide +kernel) rfl)⟩
theorem fq_X2_19 : FQk RX2 19 2 4 (.array .char) true := ⟨RX2, TX2, 8, tyX2, rfl, inb_X2, by decide, tyX2_ok, nmX2, rfl, rfl, by decide +kernel, (mem_big 197 (by decide +kernel) rfl)⟩
theorem fq_X2_22 : FQk RX2 22 2 0 (.object "TimeWishes$Forms") true := ⟨RX2, TX2, 8, tyX2, rfl, inb_X2, by decide, tyX2_ok, nmX2, rfl, rfl, by decide +kernel, (mem_big 193 (by decide +kernel) rfl)⟩
theorem fq_X2_26 : FQk RX2 26 2 1 (.object "TimeWishes$Changes") true := ⟨RX2, TX2, 8, tyX2, rfl, inb_X2, by decide, tyX2_ok, nmX2, rfl, rfl, by decide +kernel, (mem_big 194 (by decide +kernel) rfl)⟩
def reL (G : GL) (e : Nat → Nat) (p1 : Nat) (p2 : Nat) : va_W := [((e 0), .inr (2, [.ref p1, .ref p2, .ref (e 1), .ref (e 2), .ref (e 3), .int 0, .int 0, .int 0])), ((e 1), .inl (G.2.1 2, 60, .inl (fun _ => 0))), ((e 2), .inl (G.2.1 0, 60, .inl (fun _ => 0))), ((e 3), .inl (G.2.1 2, 60, .inl (fun _ => 0)))]
set_option maxHeartbeats 40000000 in
set_option maxRecDepth 100000 in
theorem ct_X2_init {l : Launch} {G : GL} {h0 : Nat} {p1 : Nat} {p2 : Nat} : CtL l G yX2_init cX2_init 3 1 12 3 180 [.ref h0, .ref p1, .ref p2] ([(h0, .inr (2, [.null, .null, .null, .null, .null, .int 0, .int 0, .int 0]))]) (fun w1 => ∃ e : Nat → Nat, e 0 = h0 ∧ w1 = reL G e p1 p2) := by
  refine ctL_of (L := [some (.ref h0), some (.ref p1), some (.ref p2)]) (by decide +kernel) (List.forall_mem_cons.mpr ⟨rfl, (List.forall_mem_cons.mpr ⟨rfl, (List.forall_mem_cons.mpr ⟨rfl, (fun _ h => absurd h List.not_mem_nil)⟩)⟩)⟩) (Nat.le_of_ble_eq_true rfl) (fun i v h => by
    match i with
    | 0 => exact (Option.some.inj h ▸ rfl)
    | 1 => exact (Option.some.inj h ▸ rfl)
    | 2 => exact (Option.some.inj h ▸ rfl)
    | j + 3 => exact absurd h (by rcases j with _ | _ | _ | _ | _ | j <;> simp)) ?_
  intro X sz hsz hX hi hr
  refine l_aload_n hX (i := 0) rfl rfl dX2_init_0 ?_
  refine l_objInit hX (mem_big 192 (by decide +kernel) rfl) (mem_big 66 (by decide +kernel) rfl) (mem_big 67 (by decide +kernel) rfl) dX2_init_1 (Nat.le_of_ble_eq_true rfl) (Nat.le_of_ble_eq_true rfl) ?_
  refine l_aload_n hX (i := 0) rfl rfl dX2_init_4 ?_
  refine l_bipush (v := (nI 60)) hX rfl dX2_init_5 ?_
  refine l_newa (N := 60) (t := 2) hX (mem_big 129 (by decide +kernel) rfl) rfl rfl rfl (by decide) (by decide) (Nat.le_of_ble_eq_true rfl) (Nat.le_of_ble_eq_true rfl) (Nat.le_of_ble_eq_true rfl) dX2_init_7 (fun q1 => ?_)
  refine KL.world (ws' := [(h0, .inr (2, [.null, .null, .null, .null, .null, .int 0, .int 0, .int 0])), (q1, .inl (G.2.1 2, 60, .inl (fun _ => 0)))]) rfl ?_
  refine l_put (ws' := [(h0, .inr (2, [.null, .null, .ref q1, .null, .null, .int 0, .int 0, .int 0])), (q1, .inl (G.2.1 2, 60, .inl (fun _ => 0)))]) hX 0 rfl fq_X2_9 (fun _ => hi) rfl rfl (Nat.le_of_ble_eq_true rfl) rfl dX2_init_9 ?_
  refine l_aload_n hX (i := 0) rfl rfl dX2_init_12 ?_
  refine l_bipush (v := (nI 60)) hX rfl dX2_init_13 ?_
  refine l_newa (N := 60) (t := 0) hX (mem_big 127 (by decide +kernel) rfl) rfl rfl rfl (by decide) (by decide) (Nat.le_of_ble_eq_true rfl) (Nat.le_of_ble_eq_true rfl) (Nat.le_of_ble_eq_true rfl) dX2_init_15 (fun q2 => ?_)
  refine KL.world (ws' := [(h0, .inr (2, [.null, .null, .ref q1, .null, .null, .int 0, .int 0, .int 0])), (q1, .inl (G.2.1 2, 60, .inl (fun _ => 0))), (q2, .inl (G.2.1 0, 60, .inl (fun _ => 0)))]) rfl ?_
  refine l_put (ws' := [(h0, .inr (2, [.null, .null, .ref q1, .ref q2, .null, .int 0, .int 0, .int 0])), (q1, .inl (G.2.1 2, 60, .inl (fun _ => 0))), (q2, .inl (G.2.1 0, 60, .inl (fun _ => 0)))]) hX 0 rfl fq_X2_15 (fun _ => hi) rfl rfl (Nat.le_of_ble_eq_true rfl) rfl dX2_init_17 ?_
  refine l_aload_n hX (i := 0) rfl rfl dX2_init_20 ?_
  refine l_bipush (v := (nI 60)) hX rfl dX2_init_21 ?_
  refine l_newa (N := 60) (t := 2) hX (mem_big 129 (by decide +kernel) rfl) rfl rfl rfl (by decide) (by decide) (Nat.le_of_ble_eq_true rfl) (Nat.le_of_ble_eq_true rfl) (Nat.le_of_ble_eq_true rfl) dX2_init_23 (fun q3 => ?_)
  refine KL.world (ws' := [(h0, .inr (2, [.null, .null, .ref q1, .ref q2, .null, .int 0, .int 0, .int 0])), (q1, .inl (G.2.1 2, 60, .inl (fun _ => 0))), (q2, .inl (G.2.1 0, 60, .inl (fun _ => 0))), (q3, .inl (G.2.1 2, 60, .inl (fun _ => 0)))]) rfl ?_
  refine l_put (ws' := [(h0, .inr (2, [.null, .null, .ref q1, .ref q2, .ref q3, .int 0, .int 0, .int 0])), (q1, .inl (G.2.1 2, 60, .inl (fun _ => 0))), (q2, .inl (G.2.1 0, 60, .inl (fun _ => 0))), (q3, .inl (G.2.1 2, 60, .inl (fun _ => 0)))]) hX 0 rfl fq_X2_19 (fun _ => hi) rfl rfl (Nat.le_of_ble_eq_true rfl) rfl dX2_init_25 ?_
  refine l_aload_n hX (i := 0) rfl rfl dX2_init_28 ?_
  refine l_aload_n hX (i := 1) rfl rfl dX2_init_29 ?_
  refine l_put (ws' := [(h0, .inr (2, [.ref p1, .null, .ref q1, .ref q2, .ref q3, .int 0, .int 0, .int 0])), (q1, .inl (G.2.1 2, 60, .inl (fun _ => 0))), (q2, .inl (G.2.1 0, 60, .inl (fun _ => 0))), (q3, .inl (G.2.1 2, 60, .inl (fun _ => 0)))]) hX 0 rfl fq_X2_22 (fun _ => hi) rfl rfl (Nat.le_of_ble_eq_true rfl) rfl dX2_init_30 ?_
  refine l_aload_n hX (i := 0) rfl rfl dX2_init_33 ?_
  refine l_aload_n hX (i := 2) rfl rfl dX2_init_34 ?_
  refine l_put (ws' := [(h0, .inr (2, [.ref p1, .ref p2, .ref q1, .ref q2, .ref q3, .int 0, .int 0, .int 0])), (q1, .inl (G.2.1 2, 60, .inl (fun _ => 0))), (q2, .inl (G.2.1 0, 60, .inl (fun _ => 0))), (q3, .inl (G.2.1 2, 60, .inl (fun _ => 0)))]) hX 0 rfl fq_X2_26 (fun _ => hi) rfl rfl (Nat.le_of_ble_eq_true rfl) rfl dX2_init_35 ?_
  exact l_vret hX hr (⟨fun j => ([h0, q1, q2, q3] : List Nat).getD j 0, rfl, rfl⟩) dX2_init_38
theorem fq_X5_9 : FQk RX5 9 5 6 (.array .int) true := ⟨RX5, TX5, 8, tyX5, rfl, inb_X5, by decide, tyX5_ok, nmX5, rfl, rfl, by decide +kernel, (mem_big 247 (by decide +kernel) rfl)⟩
theorem fq_X5_15 : FQk RX5 15 5 7 (.array .int) true := ⟨RX5, TX5, 8, tyX5, rfl, inb_X5, by decide, tyX5_ok, nmX5, rfl, rfl, by decide +kernel, (mem_big 250 (by decide +kernel) rfl)⟩
set_option maxHeartbeats 40000000 in
set_option maxRecDepth 100000 in
theorem ct_X5_init {l : Launch} {G : GL} {h0 : Nat} : CtL l G yX5_init cX5_init 1 1 12 2 968 [.ref h0] ([(h0, .inr (5, [.int 0, .int 0, .int 0, .int 0, .int 0, .int 0, .null, .null]))]) (fun w1 => ∃ q1 q2 : Nat, w1 = [(h0, .inr (5, [.int 0, .int 0, .int 0, .int 0, .int 0, .int 0, .ref q1, .ref q2])), (q1, .inl (G.2.1 0, 8, .inl (fun _ => 0))), (q2, .inl (G.2.1 0, 960, .inl (fun _ => 0)))]) := by
  refine ctL_of (L := [some (.ref h0)]) (by decide +kernel) (List.forall_mem_cons.mpr ⟨rfl, (fun _ h => absurd h List.not_mem_nil)⟩) (Nat.le_of_ble_eq_true rfl) (fun i v h => by
    match i with
    | 0 => exact (Option.some.inj h ▸ rfl)
    | j + 1 => exact absurd h (by rcases j with _ | _ | _ | _ | _ | j <;> simp)) ?_
  intro X sz hsz hX hi hr
  refine l_aload_n hX (i := 0) rfl rfl dX5_init_0 ?_
  refine l_objInit hX (mem_big 232 (by decide +kernel) rfl) (mem_big 66 (by decide +kernel) rfl) (mem_big 67 (by decide +kernel) rfl) dX5_init_1 (Nat.le_of_ble_eq_true rfl) (Nat.le_of_ble_eq_true rfl) ?_
  refine l_aload_n hX (i := 0) rfl rfl dX5_init_4 ?_
  refine l_bipush (v := (nI 8)) hX rfl dX5_init_5 ?_
  refine l_newa (N := 8) (t := 0) hX (mem_big 127 (by decide +kernel) rfl) rfl rfl rfl (by decide) (by decide) (Nat.le_of_ble_eq_true rfl) (Nat.le_of_ble_eq_true rfl) (Nat.le_of_ble_eq_true rfl) dX5_init_7 (fun q1 => ?_)
  refine KL.world (ws' := [(h0, .inr (5, [.int 0, .int 0, .int 0, .int 0, .int 0, .int 0, .null, .null])), (q1, .inl (G.2.1 0, 8, .inl (fun _ => 0)))]) rfl ?_
  refine l_put (ws' := [(h0, .inr (5, [.int 0, .int 0, .int 0, .int 0, .int 0, .int 0, .ref q1, .null])), (q1, .inl (G.2.1 0, 8, .inl (fun _ => 0)))]) hX 0 rfl fq_X5_9 (fun _ => hi) rfl rfl (Nat.le_of_ble_eq_true rfl) rfl dX5_init_9 ?_
  refine l_aload_n hX (i := 0) rfl rfl dX5_init_12 ?_
  refine l_sipush (v := (nI 960)) hX rfl dX5_init_13 ?_
  refine l_newa (N := 960) (t := 0) hX (mem_big 127 (by decide +kernel) rfl) rfl rfl rfl (by decide) (by decide) (Nat.le_of_ble_eq_true rfl) (Nat.le_of_ble_eq_true rfl) (Nat.le_of_ble_eq_true rfl) dX5_init_16 (fun q2 => ?_)
  refine KL.world (ws' := [(h0, .inr (5, [.int 0, .int 0, .int 0, .int 0, .int 0, .int 0, .ref q1, .null])), (q1, .inl (G.2.1 0, 8, .inl (fun _ => 0))), (q2, .inl (G.2.1 0, 960, .inl (fun _ => 0)))]) rfl ?_
  refine l_put (ws' := [(h0, .inr (5, [.int 0, .int 0, .int 0, .int 0, .int 0, .int 0, .ref q1, .ref q2])), (q1, .inl (G.2.1 0, 8, .inl (fun _ => 0))), (q2, .inl (G.2.1 0, 960, .inl (fun _ => 0)))]) hX 0 rfl fq_X5_15 (fun _ => hi) rfl rfl (Nat.le_of_ble_eq_true rfl) rfl dX5_init_18 ?_
  exact l_vret hX hr (⟨q1, q2, rfl⟩) dX5_init_21
theorem fq_X4_9 : FQk RX4 9 4 3 (.array .int) true := ⟨RX4, TX4, 5, tyX4, rfl, inb_X4, by decide, tyX4_ok, nmX4, rfl, rfl, by decide +kernel, (mem_big 275 (by decide +kernel) rfl)⟩
theorem fq_X4_17 : FQk RX4 17 4 4 (.array (.object "TimeWishes$Wish")) true := ⟨RX4, TX4, 5, tyX4, rfl, inb_X4, by decide, tyX4_ok, nmX4, rfl, rfl, by decide +kernel, (mem_big 277 (by decide +kernel) rfl)⟩
def stL (G : GL) (e : Nat → Nat) : va_W := [((e 0), .inr (4, [.int 0, .int 0, .int 0, .ref (e 1), .ref (e 2)])), ((e 1), .inl (G.2.1 0, 40, .inl (fun _ => 0))), ((e 2), .inl (G.2.1 4, 8, .inr (.inr (.inr (.inr (va_up (va_up (va_up (va_up (va_up (va_up (va_up (va_up (fun _ => none) 0 (some (e 3))) 1 (some (e 6))) 2 (some (e 9))) 3 (some (e 12))) 4 (some (e 15))) 5 (some (e 18))) 6 (some (e 21))) 7 (some (e 24)))))))), ((e 3), .inr (5, [.int 0, .int 0, .int 0, .int 0, .int 0, .int 0, .ref (e 4), .ref (e 5)])), ((e 4), .inl (G.2.1 0, 8, .inl (fun _ => 0))), ((e 5), .inl (G.2.1 0, 960, .inl (fun _ => 0))), ((e 6), .inr (5, [.int 0, .int 0, .int 0, .int 0, .int 0, .int 0, .ref (e 7), .ref (e 8)])), ((e 7), .inl (G.2.1 0, 8, .inl (fun _ => 0))), ((e 8), .inl (G.2.1 0, 960, .inl (fun _ => 0))), ((e 9), .inr (5, [.int 0, .int 0, .int 0, .int 0, .int 0, .int 0, .ref (e 10), .ref (e 11)])), ((e 10), .inl (G.2.1 0, 8, .inl (fun _ => 0))), ((e 11), .inl (G.2.1 0, 960, .inl (fun _ => 0))), ((e 12), .inr (5, [.int 0, .int 0, .int 0, .int 0, .int 0, .int 0, .ref (e 13), .ref (e 14)])), ((e 13), .inl (G.2.1 0, 8, .inl (fun _ => 0))), ((e 14), .inl (G.2.1 0, 960, .inl (fun _ => 0))), ((e 15), .inr (5, [.int 0, .int 0, .int 0, .int 0, .int 0, .int 0, .ref (e 16), .ref (e 17)])), ((e 16), .inl (G.2.1 0, 8, .inl (fun _ => 0))), ((e 17), .inl (G.2.1 0, 960, .inl (fun _ => 0))), ((e 18), .inr (5, [.int 0, .int 0, .int 0, .int 0, .int 0, .int 0, .ref (e 19), .ref (e 20)])), ((e 19), .inl (G.2.1 0, 8, .inl (fun _ => 0))), ((e 20), .inl (G.2.1 0, 960, .inl (fun _ => 0))), ((e 21), .inr (5, [.int 0, .int 0, .int 0, .int 0, .int 0, .int 0, .ref (e 22), .ref (e 23)])), ((e 22), .inl (G.2.1 0, 8, .inl (fun _ => 0))), ((e 23), .inl (G.2.1 0, 960, .inl (fun _ => 0))), ((e 24), .inr (5, [.int 0, .int 0, .int 0, .int 0, .int 0, .int 0, .ref (e 25), .ref (e 26)])), ((e 25), .inl (G.2.1 0, 8, .inl (fun _ => 0))), ((e 26), .inl (G.2.1 0, 960, .inl (fun _ => 0)))]
set_option maxHeartbeats 40000000 in
set_option maxRecDepth 100000 in
theorem ct_X4_init {l : Launch} {G : GL} {h0 : Nat} : CtL l G yX4_init cX4_init 2 2 32 26 7856 [.ref h0] ([(h0, .inr (4, [.int 0, .int 0, .int 0, .null, .null]))]) (fun w1 => ∃ e : Nat → Nat, e 0 = h0 ∧ w1 = stL G e) := by
  refine ctL_of (L := [some (.ref h0), none]) (by decide +kernel) (List.forall_mem_cons.mpr ⟨rfl, (fun _ h => absurd h List.not_mem_nil)⟩) (Nat.le_of_ble_eq_true rfl) (fun i v h => by
    match i with
    | 0 => exact (Option.some.inj h ▸ rfl)
    | j + 1 => exact absurd h (by rcases j with _ | _ | _ | _ | _ | j <;> simp)) ?_
  intro X sz hsz hX hi hr
  refine l_aload_n hX (i := 0) rfl rfl dX4_init_0 ?_
  refine l_objInit hX (mem_big 225 (by decide +kernel) rfl) (mem_big 66 (by decide +kernel) rfl) (mem_big 67 (by decide +kernel) rfl) dX4_init_1 (Nat.le_of_ble_eq_true rfl) (Nat.le_of_ble_eq_true rfl) ?_
  refine l_aload_n hX (i := 0) rfl rfl dX4_init_4 ?_
  refine l_bipush (v := (nI 40)) hX rfl dX4_init_5 ?_
  refine l_newa (N := 40) (t := 0) hX (mem_big 127 (by decide +kernel) rfl) rfl rfl rfl (by decide) (by decide) (Nat.le_of_ble_eq_true rfl) (Nat.le_of_ble_eq_true rfl) (Nat.le_of_ble_eq_true rfl) dX4_init_7 (fun q1 => ?_)
  refine KL.world (ws' := [(h0, .inr (4, [.int 0, .int 0, .int 0, .null, .null])), (q1, .inl (G.2.1 0, 40, .inl (fun _ => 0)))]) rfl ?_
  refine l_put (ws' := [(h0, .inr (4, [.int 0, .int 0, .int 0, .ref q1, .null])), (q1, .inl (G.2.1 0, 40, .inl (fun _ => 0)))]) hX 0 rfl fq_X4_9 (fun _ => hi) rfl rfl (Nat.le_of_ble_eq_true rfl) rfl dX4_init_9 ?_
  refine l_aload_n hX (i := 0) rfl rfl dX4_init_12 ?_
  refine l_bipush (v := (nI 8)) hX rfl dX4_init_13 ?_
  refine l_newq (N := 8) (t := 4) hX (mem_big 226 (by decide +kernel) rfl) (fun h => h.2) rfl (by decide) (by decide) (Nat.le_of_ble_eq_true rfl) (Nat.le_of_ble_eq_true rfl) (Nat.le_of_ble_eq_true rfl) dX4_init_15 (fun q2 => ?_)
  refine KL.world (ws' := [(h0, .inr (4, [.int 0, .int 0, .int 0, .ref q1, .null])), (q1, .inl (G.2.1 0, 40, .inl (fun _ => 0))), (q2, .inl (G.2.1 4, 8, .inr (.inr (.inr (.inr (fun _ => none))))))]) rfl ?_
  refine l_put (ws' := [(h0, .inr (4, [.int 0, .int 0, .int 0, .ref q1, .ref q2])), (q1, .inl (G.2.1 0, 40, .inl (fun _ => 0))), (q2, .inl (G.2.1 4, 8, .inr (.inr (.inr (.inr (fun _ => none))))))]) hX 0 rfl fq_X4_17 (fun _ => hi) rfl rfl (Nat.le_of_ble_eq_true rfl) rfl dX4_init_18 ?_
  refine l_iconst (v := (nI 0)) hX rfl dX4_init_21 ?_
  refine l_istore_n (L' := [some (.ref h0), some (.int (nI 0))]) hX (i := 1) rfl (by decide) rfl dX4_init_22 ?_
  refine l_iload_n hX (i := 1) rfl rfl dX4_init_23 ?_
  refine l_bipush (v := (nI 8)) hX rfl dX4_init_24 ?_
  refine l_ge_f (tgt := 48) hX (by decide) dX4_init_26 (by decide) ?_
  refine l_aload_n hX (i := 0) rfl rfl dX4_init_29 ?_
  refine l_get hX 0 rfl fq_X4_17 rfl dX4_init_30 ?_
  refine l_iload_n hX (i := 1) rfl rfl dX4_init_33 ?_
  refine l_new (ci := 5) (fs := [.int 0, .int 0, .int 0, .int 0, .int 0, .int 0, .null, .null]) hX tyX5 tyX5_ok inb_X5 (mem_big 226 (by decide +kernel) rfl) (mem_big 228 (by decide +kernel) rfl) (mem_big 58 (by decide +kernel) rfl) rfl (by decide) (Nat.le_of_ble_eq_true rfl) (Nat.le_of_ble_eq_true rfl) dX4_init_34 (fun q3 => ?_)
  refine l_dup hX rfl dX4_init_37 ?_
  refine l_call (n := 0) (vs := []) (wr := [(h0, .inr (4, [.int 0, .int 0, .int 0, .ref q1, .ref q2])), (q1, .inl (G.2.1 0, 40, .inl (fun _ => 0))), (q2, .inl (G.2.1 4, 8, .inr (.inr (.inr (.inr (fun _ => none))))))]) (wc := [(q3, .inr (5, [.int 0, .int 0, .int 0, .int 0, .int 0, .int 0, .null, .null]))]) hX (ct_X5_init (h0 := q3)) ⟨⟨Or.inr ⟨"TimeWishes", List.mem_of_getElem? (i := 5) (by decide +kernel)⟩, (mem_big 231 (by decide +kernel) rfl), (mem_big 58 (by decide +kernel) rfl), by decide +kernel⟩, (mem_big 230 (by decide +kernel) rfl), rfl⟩ rfl rfl rfl (Nat.le_of_ble_eq_true rfl) ⟨Nat.le_of_ble_eq_true rfl, Nat.le_of_ble_eq_true rfl⟩ ⟨Nat.le_of_ble_eq_true rfl, Nat.le_of_ble_eq_true rfl⟩ dX4_init_38 (fun w4 hw4 => ?_)
  obtain ⟨q5, q6, rfl⟩ := hw4
  refine KL.world (ws' := [(h0, .inr (4, [.int 0, .int 0, .int 0, .ref q1, .ref q2])), (q1, .inl (G.2.1 0, 40, .inl (fun _ => 0))), (q2, .inl (G.2.1 4, 8, .inr (.inr (.inr (.inr (fun _ => none)))))), (q3, .inr (5, [.int 0, .int 0, .int 0, .int 0, .int 0, .int 0, .ref q5, .ref q6])), (q5, .inl (G.2.1 0, 8, .inl (fun _ => 0))), (q6, .inl (G.2.1 0, 960, .inl (fun _ => 0)))]) rfl ?_
  refine l_astq (r := (RX5, TX5, 8)) (ci := 5) (ws' := [(h0, .inr (4, [.int 0, .int 0, .int 0, .ref q1, .ref q2])), (q1, .inl (G.2.1 0, 40, .inl (fun _ => 0))), (q2, .inl (G.2.1 4, 8, .inr (.inr (.inr (.inr (va_up (fun _ => none) 0 (some q3))))))), (q3, .inr (5, [.int 0, .int 0, .int 0, .int 0, .int 0, .int 0, .ref q5, .ref q6])), (q5, .inl (G.2.1 0, 8, .inl (fun _ => 0))), (q6, .inl (G.2.1 0, 960, .inl (fun _ => 0)))]) hX 2 3 rfl rfl rfl rfl (by unfold vp_in; decide) rfl rfl dX4_init_41 ?_
  refine l_iinc (v := (nI 1)) (L' := [some (.ref h0), some (.int (nI 1))]) hX (i := 1) rfl (by decide) (by decide) rfl dX4_init_42 ?_
  refine l_goto (tgt := 23) hX dX4_init_45 (by decide) ?_
  refine l_iload_n hX (i := 1) rfl rfl dX4_init_23 ?_
  refine l_bipush (v := (nI 8)) hX rfl dX4_init_24 ?_
  refine l_ge_f (tgt := 48) hX (by decide) dX4_init_26 (by decide) ?_
  refine l_aload_n hX (i := 0) rfl rfl dX4_init_29 ?_
  refine l_get hX 0 rfl fq_X4_17 rfl dX4_init_30 ?_
  refine l_iload_n hX (i := 1) rfl rfl dX4_init_33 ?_
  refine l_new (ci := 5) (fs := [.int 0, .int 0, .int 0, .int 0, .int 0, .int 0, .null, .null]) hX tyX5 tyX5_ok inb_X5 (mem_big 226 (by decide +kernel) rfl) (mem_big 228 (by decide +kernel) rfl) (mem_big 58 (by decide +kernel) rfl) rfl (by decide) (Nat.le_of_ble_eq_true rfl) (Nat.le_of_ble_eq_true rfl) dX4_init_34 (fun q7 => ?_)
  refine l_dup hX rfl dX4_init_37 ?_
  refine l_call (n := 0) (vs := []) (wr := [(h0, .inr (4, [.int 0, .int 0, .int 0, .ref q1, .ref q2])), (q1, .inl (G.2.1 0, 40, .inl (fun _ => 0))), (q2, .inl (G.2.1 4, 8, .inr (.inr (.inr (.inr (va_up (fun _ => none) 0 (some q3))))))), (q3, .inr (5, [.int 0, .int 0, .int 0, .int 0, .int 0, .int 0, .ref q5, .ref q6])), (q5, .inl (G.2.1 0, 8, .inl (fun _ => 0))), (q6, .inl (G.2.1 0, 960, .inl (fun _ => 0)))]) (wc := [(q7, .inr (5, [.int 0, .int 0, .int 0, .int 0, .int 0, .int 0, .null, .null]))]) hX (ct_X5_init (h0 := q7)) ⟨⟨Or.inr ⟨"TimeWishes", List.mem_of_getElem? (i := 5) (by decide +kernel)⟩, (mem_big 231 (by decide +kernel) rfl), (mem_big 58 (by decide +kernel) rfl), by decide +kernel⟩, (mem_big 230 (by decide +kernel) rfl), rfl⟩ rfl rfl rfl (Nat.le_of_ble_eq_true rfl) ⟨Nat.le_of_ble_eq_true rfl, Nat.le_of_ble_eq_true rfl⟩ ⟨Nat.le_of_ble_eq_true rfl, Nat.le_of_ble_eq_true rfl⟩ dX4_init_38 (fun w8 hw8 => ?_)
  obtain ⟨q9, q10, rfl⟩ := hw8
  refine KL.world (ws' := [(h0, .inr (4, [.int 0, .int 0, .int 0, .ref q1, .ref q2])), (q1, .inl (G.2.1 0, 40, .inl (fun _ => 0))), (q2, .inl (G.2.1 4, 8, .inr (.inr (.inr (.inr (va_up (fun _ => none) 0 (some q3))))))), (q3, .inr (5, [.int 0, .int 0, .int 0, .int 0, .int 0, .int 0, .ref q5, .ref q6])), (q5, .inl (G.2.1 0, 8, .inl (fun _ => 0))), (q6, .inl (G.2.1 0, 960, .inl (fun _ => 0))), (q7, .inr (5, [.int 0, .int 0, .int 0, .int 0, .int 0, .int 0, .ref q9, .ref q10])), (q9, .inl (G.2.1 0, 8, .inl (fun _ => 0))), (q10, .inl (G.2.1 0, 960, .inl (fun _ => 0)))]) rfl ?_
  refine l_astq (r := (RX5, TX5, 8)) (ci := 5) (ws' := [(h0, .inr (4, [.int 0, .int 0, .int 0, .ref q1, .ref q2])), (q1, .inl (G.2.1 0, 40, .inl (fun _ => 0))), (q2, .inl (G.2.1 4, 8, .inr (.inr (.inr (.inr (va_up (va_up (fun _ => none) 0 (some q3)) 1 (some q7))))))), (q3, .inr (5, [.int 0, .int 0, .int 0, .int 0, .int 0, .int 0, .ref q5, .ref q6])), (q5, .inl (G.2.1 0, 8, .inl (fun _ => 0))), (q6, .inl (G.2.1 0, 960, .inl (fun _ => 0))), (q7, .inr (5, [.int 0, .int 0, .int 0, .int 0, .int 0, .int 0, .ref q9, .ref q10])), (q9, .inl (G.2.1 0, 8, .inl (fun _ => 0))), (q10, .inl (G.2.1 0, 960, .inl (fun _ => 0)))]) hX 2 6 rfl rfl rfl rfl (by unfold vp_in; decide) rfl rfl dX4_init_41 ?_
  refine l_iinc (v := (nI 2)) (L' := [some (.ref h0), some (.int (nI 2))]) hX (i := 1) rfl (by decide) (by decide) rfl dX4_init_42 ?_
  refine l_goto (tgt := 23) hX dX4_init_45 (by decide) ?_
  refine l_iload_n hX (i := 1) rfl rfl dX4_init_23 ?_
  refine l_bipush (v := (nI 8)) hX rfl dX4_init_24 ?_
  refine l_ge_f (tgt := 48) hX (by decide) dX4_init_26 (by decide) ?_
  refine l_aload_n hX (i := 0) rfl rfl dX4_init_29 ?_
  refine l_get hX 0 rfl fq_X4_17 rfl dX4_init_30 ?_
  refine l_iload_n hX (i := 1) rfl rfl dX4_init_33 ?_
  refine l_new (ci := 5) (fs := [.int 0, .int 0, .int 0, .int 0, .int 0, .int 0, .null, .null]) hX tyX5 tyX5_ok inb_X5 (mem_big 226 (by decide +kernel) rfl) (mem_big 228 (by decide +kernel) rfl) (mem_big 58 (by decide +kernel) rfl) rfl (by decide) (Nat.le_of_ble_eq_true rfl) (Nat.le_of_ble_eq_true rfl) dX4_init_34 (fun q11 => ?_)
  refine l_dup hX rfl dX4_init_37 ?_
  refine l_call (n := 0) (vs := []) (wr := [(h0, .inr (4, [.int 0, .int 0, .int 0, .ref q1, .ref q2])), (q1, .inl (G.2.1 0, 40, .inl (fun _ => 0))), (q2, .inl (G.2.1 4, 8, .inr (.inr (.inr (.inr (va_up (va_up (fun _ => none) 0 (some q3)) 1 (some q7))))))), (q3, .inr (5, [.int 0, .int 0, .int 0, .int 0, .int 0, .int 0, .ref q5, .ref q6])), (q5, .inl (G.2.1 0, 8, .inl (fun _ => 0))), (q6, .inl (G.2.1 0, 960, .inl (fun _ => 0))), (q7, .inr (5, [.int 0, .int 0, .int 0, .int 0, .int 0, .int 0, .ref q9, .ref q10])), (q9, .inl (G.2.1 0, 8, .inl (fun _ => 0))), (q10, .inl (G.2.1 0, 960, .inl (fun _ => 0)))]) (wc := [(q11, .inr (5, [.int 0, .int 0, .int 0, .int 0, .int 0, .int 0, .null, .null]))]) hX (ct_X5_init (h0 := q11)) ⟨⟨Or.inr ⟨"TimeWishes", List.mem_of_getElem? (i := 5) (by decide +kernel)⟩, (mem_big 231 (by decide +kernel) rfl), (mem_big 58 (by decide +kernel) rfl), by decide +kernel⟩, (mem_big 230 (by decide +kernel) rfl), rfl⟩ rfl rfl rfl (Nat.le_of_ble_eq_true rfl) ⟨Nat.le_of_ble_eq_true rfl, Nat.le_of_ble_eq_true rfl⟩ ⟨Nat.le_of_ble_eq_true rfl, Nat.le_of_ble_eq_true rfl⟩ dX4_init_38 (fun w12 hw12 => ?_)
  obtain ⟨q13, q14, rfl⟩ := hw12
  refine KL.world (ws' := [(h0, .inr (4, [.int 0, .int 0, .int 0, .ref q1, .ref q2])), (q1, .inl (G.2.1 0, 40, .inl (fun _ => 0))), (q2, .inl (G.2.1 4, 8, .inr (.inr (.inr (.inr (va_up (va_up (fun _ => none) 0 (some q3)) 1 (some q7))))))), (q3, .inr (5, [.int 0, .int 0, .int 0, .int 0, .int 0, .int 0, .ref q5, .ref q6])), (q5, .inl (G.2.1 0, 8, .inl (fun _ => 0))), (q6, .inl (G.2.1 0, 960, .inl (fun _ => 0))), (q7, .inr (5, [.int 0, .int 0, .int 0, .int 0, .int 0, .int 0, .ref q9, .ref q10])), (q9, .inl (G.2.1 0, 8, .inl (fun _ => 0))), (q10, .inl (G.2.1 0, 960, .inl (fun _ => 0))), (q11, .inr (5, [.int 0, .int 0, .int 0, .int 0, .int 0, .int 0, .ref q13, .ref q14])), (q13, .inl (G.2.1 0, 8, .inl (fun _ => 0))), (q14, .inl (G.2.1 0, 960, .inl (fun _ => 0)))]) rfl ?_
  refine l_astq (r := (RX5, TX5, 8)) (ci := 5) (ws' := [(h0, .inr (4, [.int 0, .int 0, .int 0, .ref q1, .ref q2])), (q1, .inl (G.2.1 0, 40, .inl (fun _ => 0))), (q2, .inl (G.2.1 4, 8, .inr (.inr (.inr (.inr (va_up (va_up (va_up (fun _ => none) 0 (some q3)) 1 (some q7)) 2 (some q11))))))), (q3, .inr (5, [.int 0, .int 0, .int 0, .int 0, .int 0, .int 0, .ref q5, .ref q6])), (q5, .inl (G.2.1 0, 8, .inl (fun _ => 0))), (q6, .inl (G.2.1 0, 960, .inl (fun _ => 0))), (q7, .inr (5, [.int 0, .int 0, .int 0, .int 0, .int 0, .int 0, .ref q9, .ref q10])), (q9, .inl (G.2.1 0, 8, .inl (fun _ => 0))), (q10, .inl (G.2.1 0, 960, .inl (fun _ => 0))), (q11, .inr (5, [.int 0, .int 0, .int 0, .int 0, .int 0, .int 0, .ref q13, .ref q14])), (q13, .inl (G.2.1 0, 8, .inl (fun _ => 0))), (q14, .inl (G.2.1 0, 960, .inl (fun _ => 0)))]) hX 2 9 rfl rfl rfl rfl (by unfold vp_in; decide) rfl rfl dX4_init_41 ?_
  refine l_iinc (v := (nI 3)) (L' := [some (.ref h0), some (.int (nI 3))]) hX (i := 1) rfl (by decide) (by decide) rfl dX4_init_42 ?_
  refine l_goto (tgt := 23) hX dX4_init_45 (by decide) ?_
  refine l_iload_n hX (i := 1) rfl rfl dX4_init_23 ?_
  refine l_bipush (v := (nI 8)) hX rfl dX4_init_24 ?_
  refine l_ge_f (tgt := 48) hX (by decide) dX4_init_26 (by decide) ?_
  refine l_aload_n hX (i := 0) rfl rfl dX4_init_29 ?_
  refine l_get hX 0 rfl fq_X4_17 rfl dX4_init_30 ?_
  refine l_iload_n hX (i := 1) rfl rfl dX4_init_33 ?_
  refine l_new (ci := 5) (fs := [.int 0, .int 0, .int 0, .int 0, .int 0, .int 0, .null, .null]) hX tyX5 tyX5_ok inb_X5 (mem_big 226 (by decide +kernel) rfl) (mem_big 228 (by decide +kernel) rfl) (mem_big 58 (by decide +kernel) rfl) rfl (by decide) (Nat.le_of_ble_eq_true rfl) (Nat.le_of_ble_eq_true rfl) dX4_init_34 (fun q15 => ?_)
  refine l_dup hX rfl dX4_init_37 ?_
  refine l_call (n := 0) (vs := []) (wr := [(h0, .inr (4, [.int 0, .int 0, .int 0, .ref q1, .ref q2])), (q1, .inl (G.2.1 0, 40, .inl (fun _ => 0))), (q2, .inl (G.2.1 4, 8, .inr (.inr (.inr (.inr (va_up (va_up (va_up (fun _ => none) 0 (some q3)) 1 (some q7)) 2 (some q11))))))), (q3, .inr (5, [.int 0, .int 0, .int 0, .int 0, .int 0, .int 0, .ref q5, .ref q6])), (q5, .inl (G.2.1 0, 8, .inl (fun _ => 0))), (q6, .inl (G.2.1 0, 960, .inl (fun _ => 0))), (q7, .inr (5, [.int 0, .int 0, .int 0, .int 0, .int 0, .int 0, .ref q9, .ref q10])), (q9, .inl (G.2.1 0, 8, .inl (fun _ => 0))), (q10, .inl (G.2.1 0, 960, .inl (fun _ => 0))), (q11, .inr (5, [.int 0, .int 0, .int 0, .int 0, .int 0, .int 0, .ref q13, .ref q14])), (q13, .inl (G.2.1 0, 8, .inl (fun _ => 0))), (q14, .inl (G.2.1 0, 960, .inl (fun _ => 0)))]) (wc := [(q15, .inr (5, [.int 0, .int 0, .int 0, .int 0, .int 0, .int 0, .null, .null]))]) hX (ct_X5_init (h0 := q15)) ⟨⟨Or.inr ⟨"TimeWishes", List.mem_of_getElem? (i := 5) (by decide +kernel)⟩, (mem_big 231 (by decide +kernel) rfl), (mem_big 58 (by decide +kernel) rfl), by decide +kernel⟩, (mem_big 230 (by decide +kernel) rfl), rfl⟩ rfl rfl rfl (Nat.le_of_ble_eq_true rfl) ⟨Nat.le_of_ble_eq_true rfl, Nat.le_of_ble_eq_true rfl⟩ ⟨Nat.le_of_ble_eq_true rfl, Nat.le_of_ble_eq_true rfl⟩ dX4_init_38 (fun w16 hw16 => ?_)
  obtain ⟨q17, q18, rfl⟩ := hw16
  refine KL.world (ws' := [(h0, .inr (4, [.int 0, .int 0, .int 0, .ref q1, .ref q2])), (q1, .inl (G.2.1 0, 40, .inl (fun _ => 0))), (q2, .inl (G.2.1 4, 8, .inr (.inr (.inr (.inr (va_up (va_up (va_up (fun _ => none) 0 (some q3)) 1 (some q7)) 2 (some q11))))))), (q3, .inr (5, [.int 0, .int 0, .int 0, .int 0, .int 0, .int 0, .ref q5, .ref q6])), (q5, .inl (G.2.1 0, 8, .inl (fun _ => 0))), (q6, .inl (G.2.1 0, 960, .inl (fun _ => 0))), (q7, .inr (5, [.int 0, .int 0, .int 0, .int 0, .int 0, .int 0, .ref q9, .ref q10])), (q9, .inl (G.2.1 0, 8, .inl (fun _ => 0))), (q10, .inl (G.2.1 0, 960, .inl (fun _ => 0))), (q11, .inr (5, [.int 0, .int 0, .int 0, .int 0, .int 0, .int 0, .ref q13, .ref q14])), (q13, .inl (G.2.1 0, 8, .inl (fun _ => 0))), (q14, .inl (G.2.1 0, 960, .inl (fun _ => 0))), (q15, .inr (5, [.int 0, .int 0, .int 0, .int 0, .int 0, .int 0, .ref q17, .ref q18])), (q17, .inl (G.2.1 0, 8, .inl (fun _ => 0))), (q18, .inl (G.2.1 0, 960, .inl (fun _ => 0)))]) rfl ?_
  refine l_astq (r := (RX5, TX5, 8)) (ci := 5) (ws' := [(h0, .inr (4, [.int 0, .int 0, .int 0, .ref q1, .ref q2])), (q1, .inl (G.2.1 0, 40, .inl (fun _ => 0))), (q2, .inl (G.2.1 4, 8, .inr (.inr (.inr (.inr (va_up (va_up (va_up (va_up (fun _ => none) 0 (some q3)) 1 (some q7)) 2 (some q11)) 3 (some q15))))))), (q3, .inr (5, [.int 0, .int 0, .int 0, .int 0, .int 0, .int 0, .ref q5, .ref q6])), (q5, .inl (G.2.1 0, 8, .inl (fun _ => 0))), (q6, .inl (G.2.1 0, 960, .inl (fun _ => 0))), (q7, .inr (5, [.int 0, .int 0, .int 0, .int 0, .int 0, .int 0, .ref q9, .ref q10])), (q9, .inl (G.2.1 0, 8, .inl (fun _ => 0))), (q10, .inl (G.2.1 0, 960, .inl (fun _ => 0))), (q11, .inr (5, [.int 0, .int 0, .int 0, .int 0, .int 0, .int 0, .ref q13, .ref q14])), (q13, .inl (G.2.1 0, 8, .inl (fun _ => 0))), (q14, .inl (G.2.1 0, 960, .inl (fun _ => 0))), (q15, .inr (5, [.int 0, .int 0, .int 0, .int 0, .int 0, .int 0, .ref q17, .ref q18])), (q17, .inl (G.2.1 0, 8, .inl (fun _ => 0))), (q18, .inl (G.2.1 0, 960, .inl (fun _ => 0)))]) hX 2 12 rfl rfl rfl rfl (by unfold vp_in; decide) rfl rfl dX4_init_41 ?_
  refine l_iinc (v := (nI 4)) (L' := [some (.ref h0), some (.int (nI 4))]) hX (i := 1) rfl (by decide) (by decide) rfl dX4_init_42 ?_
  refine l_goto (tgt := 23) hX dX4_init_45 (by decide) ?_
  refine l_iload_n hX (i := 1) rfl rfl dX4_init_23 ?_
  refine l_bipush (v := (nI 8)) hX rfl dX4_init_24 ?_
  refine l_ge_f (tgt := 48) hX (by decide) dX4_init_26 (by decide) ?_
  refine l_aload_n hX (i := 0) rfl rfl dX4_init_29 ?_
  refine l_get hX 0 rfl fq_X4_17 rfl dX4_init_30 ?_
  refine l_iload_n hX (i := 1) rfl rfl dX4_init_33 ?_
  refine l_new (ci := 5) (fs := [.int 0, .int 0, .int 0, .int 0, .int 0, .int 0, .null, .null]) hX tyX5 tyX5_ok inb_X5 (mem_big 226 (by decide +kernel) rfl) (mem_big 228 (by decide +kernel) rfl) (mem_big 58 (by decide +kernel) rfl) rfl (by decide) (Nat.le_of_ble_eq_true rfl) (Nat.le_of_ble_eq_true rfl) dX4_init_34 (fun q19 => ?_)
  refine l_dup hX rfl dX4_init_37 ?_
  refine l_call (n := 0) (vs := []) (wr := [(h0, .inr (4, [.int 0, .int 0, .int 0, .ref q1, .ref q2])), (q1, .inl (G.2.1 0, 40, .inl (fun _ => 0))), (q2, .inl (G.2.1 4, 8, .inr (.inr (.inr (.inr (va_up (va_up (va_up (va_up (fun _ => none) 0 (some q3)) 1 (some q7)) 2 (some q11)) 3 (some q15))))))), (q3, .inr (5, [.int 0, .int 0, .int 0, .int 0, .int 0, .int 0, .ref q5, .ref q6])), (q5, .inl (G.2.1 0, 8, .inl (fun _ => 0))), (q6, .inl (G.2.1 0, 960, .inl (fun _ => 0))), (q7, .inr (5, [.int 0, .int 0, .int 0, .int 0, .int 0, .int 0, .ref q9, .ref q10])), (q9, .inl (G.2.1 0, 8, .inl (fun _ => 0))), (q10, .inl (G.2.1 0, 960, .inl (fun _ => 0))), (q11, .inr (5, [.int 0, .int 0, .int 0, .int 0, .int 0, .int 0, .ref q13, .ref q14])), (q13, .inl (G.2.1 0, 8, .inl (fun _ => 0))), (q14, .inl (G.2.1 0, 960, .inl (fun _ => 0))), (q15, .inr (5, [.int 0, .int 0, .int 0, .int 0, .int 0, .int 0, .ref q17, .ref q18])), (q17, .inl (G.2.1 0, 8, .inl (fun _ => 0))), (q18, .inl (G.2.1 0, 960, .inl (fun _ => 0)))]) (wc := [(q19, .inr (5, [.int 0, .int 0, .int 0, .int 0, .int 0, .int 0, .null, .null]))]) hX (ct_X5_init (h0 := q19)) ⟨⟨Or.inr ⟨"TimeWishes", List.mem_of_getElem? (i := 5) (by decide +kernel)⟩, (mem_big 231 (by decide +kernel) rfl), (mem_big 58 (by decide +kernel) rfl), by decide +kernel⟩, (mem_big 230 (by decide +kernel) rfl), rfl⟩ rfl rfl rfl (Nat.le_of_ble_eq_true rfl) ⟨Nat.le_of_ble_eq_true rfl, Nat.le_of_ble_eq_true rfl⟩ ⟨Nat.le_of_ble_eq_true rfl, Nat.le_of_ble_eq_true rfl⟩ dX4_init_38 (fun w20 hw20 => ?_)
  obtain ⟨q21, q22, rfl⟩ := hw20
  refine KL.world (ws' := [(h0, .inr (4, [.int 0, .int 0, .int 0, .ref q1, .ref q2])), (q1, .inl (G.2.1 0, 40, .inl (fun _ => 0))), (q2, .inl (G.2.1 4, 8, .inr (.inr (.inr (.inr (va_up (va_up (va_up (va_up (fun _ => none) 0 (some q3)) 1 (some q7)) 2 (some q11)) 3 (some q15))))))), (q3, .inr (5, [.int 0, .int 0, .int 0, .int 0, .int 0, .int 0, .ref q5, .ref q6])), (q5, .inl (G.2.1 0, 8, .inl (fun _ => 0))), (q6, .inl (G.2.1 0, 960, .inl (fun _ => 0))), (q7, .inr (5, [.int 0, .int 0, .int 0, .int 0, .int 0, .int 0, .ref q9, .ref q10])), (q9, .inl (G.2.1 0, 8, .inl (fun _ => 0))), (q10, .inl (G.2.1 0, 960, .inl (fun _ => 0))), (q11, .inr (5, [.int 0, .int 0, .int 0, .int 0, .int 0, .int 0, .ref q13, .ref q14])), (q13, .inl (G.2.1 0, 8, .inl (fun _ => 0))), (q14, .inl (G.2.1 0, 960, .inl (fun _ => 0))), (q15, .inr (5, [.int 0, .int 0, .int 0, .int 0, .int 0, .int 0, .ref q17, .ref q18])), (q17, .inl (G.2.1 0, 8, .inl (fun _ => 0))), (q18, .inl (G.2.1 0, 960, .inl (fun _ => 0))), (q19, .inr (5, [.int 0, .int 0, .int 0, .int 0, .int 0, .int 0, .ref q21, .ref q22])), (q21, .inl (G.2.1 0, 8, .inl (fun _ => 0))), (q22, .inl (G.2.1 0, 960, .inl (fun _ => 0)))]) rfl ?_
  refine l_astq (r := (RX5, TX5, 8)) (ci := 5) (ws' := [(h0, .inr (4, [.int 0, .int 0, .int 0, .ref q1, .ref q2])), (q1, .inl (G.2.1 0, 40, .inl (fun _ => 0))), (q2, .inl (G.2.1 4, 8, .inr (.inr (.inr (.inr (va_up (va_up (va_up (va_up (va_up (fun _ => none) 0 (some q3)) 1 (some q7)) 2 (some q11)) 3 (some q15)) 4 (some q19))))))), (q3, .inr (5, [.int 0, .int 0, .int 0, .int 0, .int 0, .int 0, .ref q5, .ref q6])), (q5, .inl (G.2.1 0, 8, .inl (fun _ => 0))), (q6, .inl (G.2.1 0, 960, .inl (fun _ => 0))), (q7, .inr (5, [.int 0, .int 0, .int 0, .int 0, .int 0, .int 0, .ref q9, .ref q10])), (q9, .inl (G.2.1 0, 8, .inl (fun _ => 0))), (q10, .inl (G.2.1 0, 960, .inl (fun _ => 0))), (q11, .inr (5, [.int 0, .int 0, .int 0, .int 0, .int 0, .int 0, .ref q13, .ref q14])), (q13, .inl (G.2.1 0, 8, .inl (fun _ => 0))), (q14, .inl (G.2.1 0, 960, .inl (fun _ => 0))), (q15, .inr (5, [.int 0, .int 0, .int 0, .int 0, .int 0, .int 0, .ref q17, .ref q18])), (q17, .inl (G.2.1 0, 8, .inl (fun _ => 0))), (q18, .inl (G.2.1 0, 960, .inl (fun _ => 0))), (q19, .inr (5, [.int 0, .int 0, .int 0, .int 0, .int 0, .int 0, .ref q21, .ref q22])), (q21, .inl (G.2.1 0, 8, .inl (fun _ => 0))), (q22, .inl (G.2.1 0, 960, .inl (fun _ => 0)))]) hX 2 15 rfl rfl rfl rfl (by unfold vp_in; decide) rfl rfl dX4_init_41 ?_
  refine l_iinc (v := (nI 5)) (L' := [some (.ref h0), some (.int (nI 5))]) hX (i := 1) rfl (by decide) (by decide) rfl dX4_init_42 ?_
  refine l_goto (tgt := 23) hX dX4_init_45 (by decide) ?_
  refine l_iload_n hX (i := 1) rfl rfl dX4_init_23 ?_
  refine l_bipush (v := (nI 8)) hX rfl dX4_init_24 ?_
  refine l_ge_f (tgt := 48) hX (by decide) dX4_init_26 (by decide) ?_
  refine l_aload_n hX (i := 0) rfl rfl dX4_init_29 ?_
  refine l_get hX 0 rfl fq_X4_17 rfl dX4_init_30 ?_
  refine l_iload_n hX (i := 1) rfl rfl dX4_init_33 ?_
  refine l_new (ci := 5) (fs := [.int 0, .int 0, .int 0, .int 0, .int 0, .int 0, .null, .null]) hX tyX5 tyX5_ok inb_X5 (mem_big 226 (by decide +kernel) rfl) (mem_big 228 (by decide +kernel) rfl) (mem_big 58 (by decide +kernel) rfl) rfl (by decide) (Nat.le_of_ble_eq_true rfl) (Nat.le_of_ble_eq_true rfl) dX4_init_34 (fun q23 => ?_)
  refine l_dup hX rfl dX4_init_37 ?_
  refine l_call (n := 0) (vs := []) (wr := [(h0, .inr (4, [.int 0, .int 0, .int 0, .ref q1, .ref q2])), (q1, .inl (G.2.1 0, 40, .inl (fun _ => 0))), (q2, .inl (G.2.1 4, 8, .inr (.inr (.inr (.inr (va_up (va_up (va_up (va_up (va_up (fun _ => none) 0 (some q3)) 1 (some q7)) 2 (some q11)) 3 (some q15)) 4 (some q19))))))), (q3, .inr (5, [.int 0, .int 0, .int 0, .int 0, .int 0, .int 0, .ref q5, .ref q6])), (q5, .inl (G.2.1 0, 8, .inl (fun _ => 0))), (q6, .inl (G.2.1 0, 960, .inl (fun _ => 0))), (q7, .inr (5, [.int 0, .int 0, .int 0, .int 0, .int 0, .int 0, .ref q9, .ref q10])), (q9, .inl (G.2.1 0, 8, .inl (fun _ => 0))), (q10, .inl (G.2.1 0, 960, .inl (fun _ => 0))), (q11, .inr (5, [.int 0, .int 0, .int 0, .int 0, .int 0, .int 0, .ref q13, .ref q14])), (q13, .inl (G.2.1 0, 8, .inl (fun _ => 0))), (q14, .inl (G.2.1 0, 960, .inl (fun _ => 0))), (q15, .inr (5, [.int 0, .int 0, .int 0, .int 0, .int 0, .int 0, .ref q17, .ref q18])), (q17, .inl (G.2.1 0, 8, .inl (fun _ => 0))), (q18, .inl (G.2.1 0, 960, .inl (fun _ => 0))), (q19, .inr (5, [.int 0, .int 0, .int 0, .int 0, .int 0, .int 0, .ref q21, .ref q22])), (q21, .inl (G.2.1 0, 8, .inl (fun _ => 0))), (q22, .inl (G.2.1 0, 960, .inl (fun _ => 0)))]) (wc := [(q23, .inr (5, [.int 0, .int 0, .int 0, .int 0, .int 0, .int 0, .null, .null]))]) hX (ct_X5_init (h0 := q23)) ⟨⟨Or.inr ⟨"TimeWishes", List.mem_of_getElem? (i := 5) (by decide +kernel)⟩, (mem_big 231 (by decide +kernel) rfl), (mem_big 58 (by decide +kernel) rfl), by decide +kernel⟩, (mem_big 230 (by decide +kernel) rfl), rfl⟩ rfl rfl rfl (Nat.le_of_ble_eq_true rfl) ⟨Nat.le_of_ble_eq_true rfl, Nat.le_of_ble_eq_true rfl⟩ ⟨Nat.le_of_ble_eq_true rfl, Nat.le_of_ble_eq_true rfl⟩ dX4_init_38 (fun w24 hw24 => ?_)
  obtain ⟨q25, q26, rfl⟩ := hw24
  refine KL.world (ws' := [(h0, .inr (4, [.int 0, .int 0, .int 0, .ref q1, .ref q2])), (q1, .inl (G.2.1 0, 40, .inl (fun _ => 0))), (q2, .inl (G.2.1 4, 8, .inr (.inr (.inr (.inr (va_up (va_up (va_up (va_up (va_up (fun _ => none) 0 (some q3)) 1 (some q7)) 2 (some q11)) 3 (some q15)) 4 (some q19))))))), (q3, .inr (5, [.int 0, .int 0, .int 0, .int 0, .int 0, .int 0, .ref q5, .ref q6])), (q5, .inl (G.2.1 0, 8, .inl (fun _ => 0))), (q6, .inl (G.2.1 0, 960, .inl (fun _ => 0))), (q7, .inr (5, [.int 0, .int 0, .int 0, .int 0, .int 0, .int 0, .ref q9, .ref q10])), (q9, .inl (G.2.1 0, 8, .inl (fun _ => 0))), (q10, .inl (G.2.1 0, 960, .inl (fun _ => 0))), (q11, .inr (5, [.int 0, .int 0, .int 0, .int 0, .int 0, .int 0, .ref q13, .ref q14])), (q13, .inl (G.2.1 0, 8, .inl (fun _ => 0))), (q14, .inl (G.2.1 0, 960, .inl (fun _ => 0))), (q15, .inr (5, [.int 0, .int 0, .int 0, .int 0, .int 0, .int 0, .ref q17, .ref q18])), (q17, .inl (G.2.1 0, 8, .inl (fun _ => 0))), (q18, .inl (G.2.1 0, 960, .inl (fun _ => 0))), (q19, .inr (5, [.int 0, .int 0, .int 0, .int 0, .int 0, .int 0, .ref q21, .ref q22])), (q21, .inl (G.2.1 0, 8, .inl (fun _ => 0))), (q22, .inl (G.2.1 0, 960, .inl (fun _ => 0))), (q23, .inr (5, [.int 0, .int 0, .int 0, .int 0, .int 0, .int 0, .ref q25, .ref q26])), (q25, .inl (G.2.1 0, 8, .inl (fun _ => 0))), (q26, .inl (G.2.1 0, 960, .inl (fun _ => 0)))]) rfl ?_
  refine l_astq (r := (RX5, TX5, 8)) (ci := 5) (ws' := [(h0, .inr (4, [.int 0, .int 0, .int 0, .ref q1, .ref q2])), (q1, .inl (G.2.1 0, 40, .inl (fun _ => 0))), (q2, .inl (G.2.1 4, 8, .inr (.inr (.inr (.inr (va_up (va_up (va_up (va_up (va_up (va_up (fun _ => none) 0 (some q3)) 1 (some q7)) 2 (some q11)) 3 (some q15)) 4 (some q19)) 5 (some q23))))))), (q3, .inr (5, [.int 0, .int 0, .int 0, .int 0, .int 0, .int 0, .ref q5, .ref q6])), (q5, .inl (G.2.1 0, 8, .inl (fun _ => 0))), (q6, .inl (G.2.1 0, 960, .inl (fun _ => 0))), (q7, .inr (5, [.int 0, .int 0, .int 0, .int 0, .int 0, .int 0, .ref q9, .ref q10])), (q9, .inl (G.2.1 0, 8, .inl (fun _ => 0))), (q10, .inl (G.2.1 0, 960, .inl (fun _ => 0))), (q11, .inr (5, [.int 0, .int 0, .int 0, .int 0, .int 0, .int 0, .ref q13, .ref q14])), (q13, .inl (G.2.1 0, 8, .inl (fun _ => 0))), (q14, .inl (G.2.1 0, 960, .inl (fun _ => 0))), (q15, .inr (5, [.int 0, .int 0, .int 0, .int 0, .int 0, .int 0, .ref q17, .ref q18])), (q17, .inl (G.2.1 0, 8, .inl (fun _ => 0))), (q18, .inl (G.2.1 0, 960, .inl (fun _ => 0))), (q19, .inr (5, [.int 0, .int 0, .int 0, .int 0, .int 0, .int 0, .ref q21, .ref q22])), (q21, .inl (G.2.1 0, 8, .inl (fun _ => 0))), (q22, .inl (G.2.1 0, 960, .inl (fun _ => 0))), (q23, .inr (5, [.int 0, .int 0, .int 0, .int 0, .int 0, .int 0, .ref q25, .ref q26])), (q25, .inl (G.2.1 0, 8, .inl (fun _ => 0))), (q26, .inl (G.2.1 0, 960, .inl (fun _ => 0)))]) hX 2 18 rfl rfl rfl rfl (by unfold vp_in; decide) rfl rfl dX4_init_41 ?_
  refine l_iinc (v := (nI 6)) (L' := [some (.ref h0), some (.int (nI 6))]) hX (i := 1) rfl (by decide) (by decide) rfl dX4_init_42 ?_
  refine l_goto (tgt := 23) hX dX4_init_45 (by decide) ?_
  refine l_iload_n hX (i := 1) rfl rfl dX4_init_23 ?_
  refine l_bipush (v := (nI 8)) hX rfl dX4_init_24 ?_
  refine l_ge_f (tgt := 48) hX (by decide) dX4_init_26 (by decide) ?_
  refine l_aload_n hX (i := 0) rfl rfl dX4_init_29 ?_
  refine l_get hX 0 rfl fq_X4_17 rfl dX4_init_30 ?_
  refine l_iload_n hX (i := 1) rfl rfl dX4_init_33 ?_
  refine l_new (ci := 5) (fs := [.int 0, .int 0, .int 0, .int 0, .int 0, .int 0, .null, .null]) hX tyX5 tyX5_ok inb_X5 (mem_big 226 (by decide +kernel) rfl) (mem_big 228 (by decide +kernel) rfl) (mem_big 58 (by decide +kernel) rfl) rfl (by decide) (Nat.le_of_ble_eq_true rfl) (Nat.le_of_ble_eq_true rfl) dX4_init_34 (fun q27 => ?_)
  refine l_dup hX rfl dX4_init_37 ?_
  refine l_call (n := 0) (vs := []) (wr := [(h0, .inr (4, [.int 0, .int 0, .int 0, .ref q1, .ref q2])), (q1, .inl (G.2.1 0, 40, .inl (fun _ => 0))), (q2, .inl (G.2.1 4, 8, .inr (.inr (.inr (.inr (va_up (va_up (va_up (va_up (va_up (va_up (fun _ => none) 0 (some q3)) 1 (some q7)) 2 (some q11)) 3 (some q15)) 4 (some q19)) 5 (some q23))))))), (q3, .inr (5, [.int 0, .int 0, .int 0, .int 0, .int 0, .int 0, .ref q5, .ref q6])), (q5, .inl (G.2.1 0, 8, .inl (fun _ => 0))), (q6, .inl (G.2.1 0, 960, .inl (fun _ => 0))), (q7, .inr (5, [.int 0, .int 0, .int 0, .int 0, .int 0, .int 0, .ref q9, .ref q10])), (q9, .inl (G.2.1 0, 8, .inl (fun _ => 0))), (q10, .inl (G.2.1 0, 960, .inl (fun _ => 0))), (q11, .inr (5, [.int 0, .int 0, .int 0, .int 0, .int 0, .int 0, .ref q13, .ref q14])), (q13, .inl (G.2.1 0, 8, .inl (fun _ => 0))), (q14, .inl (G.2.1 0, 960, .inl (fun _ => 0))), (q15, .inr (5, [.int 0, .int 0, .int 0, .int 0, .int 0, .int 0, .ref q17, .ref q18])), (q17, .inl (G.2.1 0, 8, .inl (fun _ => 0))), (q18, .inl (G.2.1 0, 960, .inl (fun _ => 0))), (q19, .inr (5, [.int 0, .int 0, .int 0, .int 0, .int 0, .int 0, .ref q21, .ref q22])), (q21, .inl (G.2.1 0, 8, .inl (fun _ => 0))), (q22, .inl (G.2.1 0, 960, .inl (fun _ => 0))), (q23, .inr (5, [.int 0, .int 0, .int 0, .int 0, .int 0, .int 0, .ref q25, .ref q26])), (q25, .inl (G.2.1 0, 8, .inl (fun _ => 0))), (q26, .inl (G.2.1 0, 960, .inl (fun _ => 0)))]) (wc := [(q27, .inr (5, [.int 0, .int 0, .int 0, .int 0, .int 0, .int 0, .null, .null]))]) hX (ct_X5_init (h0 := q27)) ⟨⟨Or.inr ⟨"TimeWishes", List.mem_of_getElem? (i := 5) (by decide +kernel)⟩, (mem_big 231 (by decide +kernel) rfl), (mem_big 58 (by decide +kernel) rfl), by decide +kernel⟩, (mem_big 230 (by decide +kernel) rfl), rfl⟩ rfl rfl rfl (Nat.le_of_ble_eq_true rfl) ⟨Nat.le_of_ble_eq_true rfl, Nat.le_of_ble_eq_true rfl⟩ ⟨Nat.le_of_ble_eq_true rfl, Nat.le_of_ble_eq_true rfl⟩ dX4_init_38 (fun w28 hw28 => ?_)
  obtain ⟨q29, q30, rfl⟩ := hw28
  refine KL.world (ws' := [(h0, .inr (4, [.int 0, .int 0, .int 0, .ref q1, .ref q2])), (q1, .inl (G.2.1 0, 40, .inl (fun _ => 0))), (q2, .inl (G.2.1 4, 8, .inr (.inr (.inr (.inr (va_up (va_up (va_up (va_up (va_up (va_up (fun _ => none) 0 (some q3)) 1 (some q7)) 2 (some q11)) 3 (some q15)) 4 (some q19)) 5 (some q23))))))), (q3, .inr (5, [.int 0, .int 0, .int 0, .int 0, .int 0, .int 0, .ref q5, .ref q6])), (q5, .inl (G.2.1 0, 8, .inl (fun _ => 0))), (q6, .inl (G.2.1 0, 960, .inl (fun _ => 0))), (q7, .inr (5, [.int 0, .int 0, .int 0, .int 0, .int 0, .int 0, .ref q9, .ref q10])), (q9, .inl (G.2.1 0, 8, .inl (fun _ => 0))), (q10, .inl (G.2.1 0, 960, .inl (fun _ => 0))), (q11, .inr (5, [.int 0, .int 0, .int 0, .int 0, .int 0, .int 0, .ref q13, .ref q14])), (q13, .inl (G.2.1 0, 8, .inl (fun _ => 0))), (q14, .inl (G.2.1 0, 960, .inl (fun _ => 0))), (q15, .inr (5, [.int 0, .int 0, .int 0, .int 0, .int 0, .int 0, .ref q17, .ref q18])), (q17, .inl (G.2.1 0, 8, .inl (fun _ => 0))), (q18, .inl (G.2.1 0, 960, .inl (fun _ => 0))), (q19, .inr (5, [.int 0, .int 0, .int 0, .int 0, .int 0, .int 0, .ref q21, .ref q22])), (q21, .inl (G.2.1 0, 8, .inl (fun _ => 0))), (q22, .inl (G.2.1 0, 960, .inl (fun _ => 0))), (q23, .inr (5, [.int 0, .int 0, .int 0, .int 0, .int 0, .int 0, .ref q25, .ref q26])), (q25, .inl (G.2.1 0, 8, .inl (fun _ => 0))), (q26, .inl (G.2.1 0, 960, .inl (fun _ => 0))), (q27, .inr (5, [.int 0, .int 0, .int 0, .int 0, .int 0, .int 0, .ref q29, .ref q30])), (q29, .inl (G.2.1 0, 8, .inl (fun _ => 0))), (q30, .inl (G.2.1 0, 960, .inl (fun _ => 0)))]) rfl ?_
  refine l_astq (r := (RX5, TX5, 8)) (ci := 5) (ws' := [(h0, .inr (4, [.int 0, .int 0, .int 0, .ref q1, .ref q2])), (q1, .inl (G.2.1 0, 40, .inl (fun _ => 0))), (q2, .inl (G.2.1 4, 8, .inr (.inr (.inr (.inr (va_up (va_up (va_up (va_up (va_up (va_up (va_up (fun _ => none) 0 (some q3)) 1 (some q7)) 2 (some q11)) 3 (some q15)) 4 (some q19)) 5 (some q23)) 6 (some q27))))))), (q3, .inr (5, [.int 0, .int 0, .int 0, .int 0, .int 0, .int 0, .ref q5, .ref q6])), (q5, .inl (G.2.1 0, 8, .inl (fun _ => 0))), (q6, .inl (G.2.1 0, 960, .inl (fun _ => 0))), (q7, .inr (5, [.int 0, .int 0, .int 0, .int 0, .int 0, .int 0, .ref q9, .ref q10])), (q9, .inl (G.2.1 0, 8, .inl (fun _ => 0))), (q10, .inl (G.2.1 0, 960, .inl (fun _ => 0))), (q11, .inr (5, [.int 0, .int 0, .int 0, .int 0, .int 0, .int 0, .ref q13, .ref q14])), (q13, .inl (G.2.1 0, 8, .inl (fun _ => 0))), (q14, .inl (G.2.1 0, 960, .inl (fun _ => 0))), (q15, .inr (5, [.int 0, .int 0, .int 0, .int 0, .int 0, .int 0, .ref q17, .ref q18])), (q17, .inl (G.2.1 0, 8, .inl (fun _ => 0))), (q18, .inl (G.2.1 0, 960, .inl (fun _ => 0))), (q19, .inr (5, [.int 0, .int 0, .int 0, .int 0, .int 0, .int 0, .ref q21, .ref q22])), (q21, .inl (G.2.1 0, 8, .inl (fun _ => 0))), (q22, .inl (G.2.1 0, 960, .inl (fun _ => 0))), (q23, .inr (5, [.int 0, .int 0, .int 0, .int 0, .int 0, .int 0, .ref q25, .ref q26])), (q25, .inl (G.2.1 0, 8, .inl (fun _ => 0))), (q26, .inl (G.2.1 0, 960, .inl (fun _ => 0))), (q27, .inr (5, [.int 0, .int 0, .int 0, .int 0, .int 0, .int 0, .ref q29, .ref q30])), (q29, .inl (G.2.1 0, 8, .inl (fun _ => 0))), (q30, .inl (G.2.1 0, 960, .inl (fun _ => 0)))]) hX 2 21 rfl rfl rfl rfl (by unfold vp_in; decide) rfl rfl dX4_init_41 ?_
  refine l_iinc (v := (nI 7)) (L' := [some (.ref h0), some (.int (nI 7))]) hX (i := 1) rfl (by decide) (by decide) rfl dX4_init_42 ?_
  refine l_goto (tgt := 23) hX dX4_init_45 (by decide) ?_
  refine l_iload_n hX (i := 1) rfl rfl dX4_init_23 ?_
  refine l_bipush (v := (nI 8)) hX rfl dX4_init_24 ?_
  refine l_ge_f (tgt := 48) hX (by decide) dX4_init_26 (by decide) ?_
  refine l_aload_n hX (i := 0) rfl rfl dX4_init_29 ?_
  refine l_get hX 0 rfl fq_X4_17 rfl dX4_init_30 ?_
  refine l_iload_n hX (i := 1) rfl rfl dX4_init_33 ?_
  refine l_new (ci := 5) (fs := [.int 0, .int 0, .int 0, .int 0, .int 0, .int 0, .null, .null]) hX tyX5 tyX5_ok inb_X5 (mem_big 226 (by decide +kernel) rfl) (mem_big 228 (by decide +kernel) rfl) (mem_big 58 (by decide +kernel) rfl) rfl (by decide) (Nat.le_of_ble_eq_true rfl) (Nat.le_of_ble_eq_true rfl) dX4_init_34 (fun q31 => ?_)
  refine l_dup hX rfl dX4_init_37 ?_
  refine l_call (n := 0) (vs := []) (wr := [(h0, .inr (4, [.int 0, .int 0, .int 0, .ref q1, .ref q2])), (q1, .inl (G.2.1 0, 40, .inl (fun _ => 0))), (q2, .inl (G.2.1 4, 8, .inr (.inr (.inr (.inr (va_up (va_up (va_up (va_up (va_up (va_up (va_up (fun _ => none) 0 (some q3)) 1 (some q7)) 2 (some q11)) 3 (some q15)) 4 (some q19)) 5 (some q23)) 6 (some q27))))))), (q3, .inr (5, [.int 0, .int 0, .int 0, .int 0, .int 0, .int 0, .ref q5, .ref q6])), (q5, .inl (G.2.1 0, 8, .inl (fun _ => 0))), (q6, .inl (G.2.1 0, 960, .inl (fun _ => 0))), (q7, .inr (5, [.int 0, .int 0, .int 0, .int 0, .int 0, .int 0, .ref q9, .ref q10])), (q9, .inl (G.2.1 0, 8, .inl (fun _ => 0))), (q10, .inl (G.2.1 0, 960, .inl (fun _ => 0))), (q11, .inr (5, [.int 0, .int 0, .int 0, .int 0, .int 0, .int 0, .ref q13, .ref q14])), (q13, .inl (G.2.1 0, 8, .inl (fun _ => 0))), (q14, .inl (G.2.1 0, 960, .inl (fun _ => 0))), (q15, .inr (5, [.int 0, .int 0, .int 0, .int 0, .int 0, .int 0, .ref q17, .ref q18])), (q17, .inl (G.2.1 0, 8, .inl (fun _ => 0))), (q18, .inl (G.2.1 0, 960, .inl (fun _ => 0))), (q19, .inr (5, [.int 0, .int 0, .int 0, .int 0, .int 0, .int 0, .ref q21, .ref q22])), (q21, .inl (G.2.1 0, 8, .inl (fun _ => 0))), (q22, .inl (G.2.1 0, 960, .inl (fun _ => 0))), (q23, .inr (5, [.int 0, .int 0, .int 0, .int 0, .int 0, .int 0, .ref q25, .ref q26])), (q25, .inl (G.2.1 0, 8, .inl (fun _ => 0))), (q26, .inl (G.2.1 0, 960, .inl (fun _ => 0))), (q27, .inr (5, [.int 0, .int 0, .int 0, .int 0, .int 0, .int 0, .ref q29, .ref q30])), (q29, .inl (G.2.1 0, 8, .inl (fun _ => 0))), (q30, .inl (G.2.1 0, 960, .inl (fun _ => 0)))]) (wc := [(q31, .inr (5, [.int 0, .int 0, .int 0, .int 0, .int 0, .int 0, .null, .null]))]) hX (ct_X5_init (h0 := q31)) ⟨⟨Or.inr ⟨"TimeWishes", List.mem_of_getElem? (i := 5) (by decide +kernel)⟩, (mem_big 231 (by decide +kernel) rfl), (mem_big 58 (by decide +kernel) rfl), by decide +kernel⟩, (mem_big 230 (by decide +kernel) rfl), rfl⟩ rfl rfl rfl (Nat.le_of_ble_eq_true rfl) ⟨Nat.le_of_ble_eq_true rfl, Nat.le_of_ble_eq_true rfl⟩ ⟨Nat.le_of_ble_eq_true rfl, Nat.le_of_ble_eq_true rfl⟩ dX4_init_38 (fun w32 hw32 => ?_)
  obtain ⟨q33, q34, rfl⟩ := hw32
  refine KL.world (ws' := [(h0, .inr (4, [.int 0, .int 0, .int 0, .ref q1, .ref q2])), (q1, .inl (G.2.1 0, 40, .inl (fun _ => 0))), (q2, .inl (G.2.1 4, 8, .inr (.inr (.inr (.inr (va_up (va_up (va_up (va_up (va_up (va_up (va_up (fun _ => none) 0 (some q3)) 1 (some q7)) 2 (some q11)) 3 (some q15)) 4 (some q19)) 5 (some q23)) 6 (some q27))))))), (q3, .inr (5, [.int 0, .int 0, .int 0, .int 0, .int 0, .int 0, .ref q5, .ref q6])), (q5, .inl (G.2.1 0, 8, .inl (fun _ => 0))), (q6, .inl (G.2.1 0, 960, .inl (fun _ => 0))), (q7, .inr (5, [.int 0, .int 0, .int 0, .int 0, .int 0, .int 0, .ref q9, .ref q10])), (q9, .inl (G.2.1 0, 8, .inl (fun _ => 0))), (q10, .inl (G.2.1 0, 960, .inl (fun _ => 0))), (q11, .inr (5, [.int 0, .int 0, .int 0, .int 0, .int 0, .int 0, .ref q13, .ref q14])), (q13, .inl (G.2.1 0, 8, .inl (fun _ => 0))), (q14, .inl (G.2.1 0, 960, .inl (fun _ => 0))), (q15, .inr (5, [.int 0, .int 0, .int 0, .int 0, .int 0, .int 0, .ref q17, .ref q18])), (q17, .inl (G.2.1 0, 8, .inl (fun _ => 0))), (q18, .inl (G.2.1 0, 960, .inl (fun _ => 0))), (q19, .inr (5, [.int 0, .int 0, .int 0, .int 0, .int 0, .int 0, .ref q21, .ref q22])), (q21, .inl (G.2.1 0, 8, .inl (fun _ => 0))), (q22, .inl (G.2.1 0, 960, .inl (fun _ => 0))), (q23, .inr (5, [.int 0, .int 0, .int 0, .int 0, .int 0, .int 0, .ref q25, .ref q26])), (q25, .inl (G.2.1 0, 8, .inl (fun _ => 0))), (q26, .inl (G.2.1 0, 960, .inl (fun _ => 0))), (q27, .inr (5, [.int 0, .int 0, .int 0, .int 0, .int 0, .int 0, .ref q29, .ref q30])), (q29, .inl (G.2.1 0, 8, .inl (fun _ => 0))), (q30, .inl (G.2.1 0, 960, .inl (fun _ => 0))), (q31, .inr (5, [.int 0, .int 0, .int 0, .int 0, .int 0, .int 0, .ref q33, .ref q34])), (q33, .inl (G.2.1 0, 8, .inl (fun _ => 0))), (q34, .inl (G.2.1 0, 960, .inl (fun _ => 0)))]) rfl ?_
  refine l_astq (r := (RX5, TX5, 8)) (ci := 5) (ws' := [(h0, .inr (4, [.int 0, .int 0, .int 0, .ref q1, .ref q2])), (q1, .inl (G.2.1 0, 40, .inl (fun _ => 0))), (q2, .inl (G.2.1 4, 8, .inr (.inr (.inr (.inr (va_up (va_up (va_up (va_up (va_up (va_up (va_up (va_up (fun _ => none) 0 (some q3)) 1 (some q7)) 2 (some q11)) 3 (some q15)) 4 (some q19)) 5 (some q23)) 6 (some q27)) 7 (some q31))))))), (q3, .inr (5, [.int 0, .int 0, .int 0, .int 0, .int 0, .int 0, .ref q5, .ref q6])), (q5, .inl (G.2.1 0, 8, .inl (fun _ => 0))), (q6, .inl (G.2.1 0, 960, .inl (fun _ => 0))), (q7, .inr (5, [.int 0, .int 0, .int 0, .int 0, .int 0, .int 0, .ref q9, .ref q10])), (q9, .inl (G.2.1 0, 8, .inl (fun _ => 0))), (q10, .inl (G.2.1 0, 960, .inl (fun _ => 0))), (q11, .inr (5, [.int 0, .int 0, .int 0, .int 0, .int 0, .int 0, .ref q13, .ref q14])), (q13, .inl (G.2.1 0, 8, .inl (fun _ => 0))), (q14, .inl (G.2.1 0, 960, .inl (fun _ => 0))), (q15, .inr (5, [.int 0, .int 0, .int 0, .int 0, .int 0, .int 0, .ref q17, .ref q18])), (q17, .inl (G.2.1 0, 8, .inl (fun _ => 0))), (q18, .inl (G.2.1 0, 960, .inl (fun _ => 0))), (q19, .inr (5, [.int 0, .int 0, .int 0, .int 0, .int 0, .int 0, .ref q21, .ref q22])), (q21, .inl (G.2.1 0, 8, .inl (fun _ => 0))), (q22, .inl (G.2.1 0, 960, .inl (fun _ => 0))), (q23, .inr (5, [.int 0, .int 0, .int 0, .int 0, .int 0, .int 0, .ref q25, .ref q26])), (q25, .inl (G.2.1 0, 8, .inl (fun _ => 0))), (q26, .inl (G.2.1 0, 960, .inl (fun _ => 0))), (q27, .inr (5, [.int 0, .int 0, .int 0, .int 0, .int 0, .int 0, .ref q29, .ref q30])), (q29, .inl (G.2.1 0, 8, .inl (fun _ => 0))), (q30, .inl (G.2.1 0, 960, .inl (fun _ => 0))), (q31, .inr (5, [.int 0, .int 0, .int 0, .int 0, .int 0, .int 0, .ref q33, .ref q34])), (q33, .inl (G.2.1 0, 8, .inl (fun _ => 0))), (q34, .inl (G.2.1 0, 960, .inl (fun _ => 0)))]) hX 2 24 rfl rfl rfl rfl (by unfold vp_in; decide) rfl rfl dX4_init_41 ?_
  refine l_iinc (v := (nI 8)) (L' := [some (.ref h0), some (.int (nI 8))]) hX (i := 1) rfl (by decide) (by decide) rfl dX4_init_42 ?_
  refine l_goto (tgt := 23) hX dX4_init_45 (by decide) ?_
  refine l_iload_n hX (i := 1) rfl rfl dX4_init_23 ?_
  refine l_bipush (v := (nI 8)) hX rfl dX4_init_24 ?_
  refine l_ge_t (tgt := 48) hX (by decide) dX4_init_26 (by decide) ?_
  exact l_vret hX hr (⟨fun j => ([h0, q1, q2, q3, q5, q6, q7, q9, q10, q11, q13, q14, q15, q17, q18, q19, q21, q22, q23, q25, q26, q27, q29, q30, q31, q33, q34] : List Nat).getD j 0, rfl, rfl⟩) dX4_init_48
theorem fq_X6_12 : FQk RX6 12 6 0 (.object "TimeWishes$Forms") true := ⟨RX6, TX6, 12, tyX6, rfl, inb_X6, by decide, tyX6_ok, nmX6, rfl, rfl, by decide +kernel, (mem_big 290 (by decide +kernel) rfl)⟩
theorem fq_X6_21 : FQk RX6 21 6 1 (.object "TimeWishes$Changes") true := ⟨RX6, TX6, 12, tyX6, rfl, inb_X6, by decide, tyX6_ok, nmX6, rfl, rfl, by decide +kernel, (mem_big 291 (by decide +kernel) rfl)⟩
theorem fq_X6_28 : FQk RX6 28 6 2 (.object "TimeWishes$Scribe") true := ⟨RX6, TX6, 12, tyX6, rfl, inb_X6, by decide, tyX6_ok, nmX6, rfl, rfl, by decide +kernel, (mem_big 292 (by decide +kernel) rfl)⟩
theorem fq_X6_37 : FQk RX6 37 6 3 (.object "TimeWishes$Reader") true := ⟨RX6, TX6, 12, tyX6, rfl, inb_X6, by decide, tyX6_ok, nmX6, rfl, rfl, by decide +kernel, (mem_big 293 (by decide +kernel) rfl)⟩
theorem fq_X6_41 : FQk RX6 41 6 4 (.array .int) true := ⟨RX6, TX6, 12, tyX6, rfl, inb_X6, by decide, tyX6_ok, nmX6, rfl, rfl, by decide +kernel, (mem_big 294 (by decide +kernel) rfl)⟩
theorem fq_X6_45 : FQk RX6 45 6 5 (.array .int) true := ⟨RX6, TX6, 12, tyX6, rfl, inb_X6, by decide, tyX6_ok, nmX6, rfl, rfl, by decide +kernel, (mem_big 295 (by decide +kernel) rfl)⟩
theorem fq_X6_50 : FQk RX6 50 6 6 (.array (.object "TimeWishes$State")) true := ⟨RX6, TX6, 12, tyX6, rfl, inb_X6, by decide, tyX6_ok, nmX6, rfl, rfl, by decide +kernel, (mem_big 296 (by decide +kernel) rfl)⟩
theorem fq_X6_55 : FQk RX6 55 6 7 (.object "TimeWishes$State") true := ⟨RX6, TX6, 12, tyX6, rfl, inb_X6, by decide, tyX6_ok, nmX6, rfl, rfl, by decide +kernel, (mem_big 297 (by decide +kernel) rfl)⟩
theorem fq_X6_59 : FQk RX6 59 6 8 (.object "TimeWishes$State") false := ⟨RX6, TX6, 12, tyX6, rfl, inb_X6, by decide, tyX6_ok, nmX6, rfl, rfl, by decide +kernel, (mem_big 298 (by decide +kernel) rfl)⟩
theorem fq_X6_62 : FQk RX6 62 6 9 (.object "TimeWishes$State") false := ⟨RX6, TX6, 12, tyX6, rfl, inb_X6, by decide, tyX6_ok, nmX6, rfl, rfl, by decide +kernel, (mem_big 299 (by decide +kernel) rfl)⟩
def twL (G : GL) (h0 q13 q14 q15 : Nat) (b3 b6 b9 b12 b18 b21 b24 b27 b30 b33 b36 : Nat → Nat) : va_W := (((((((((((([(h0, .inr (6, [.ref (b3 0), .ref (b6 0), .ref (b9 0), .ref (b12 0), .ref q13, .ref q14, .ref q15, .ref (b18 0), .ref (b21 0), .ref (b24 0), .int 0, .int 0]))] ++ foL G b3) ++ chL G b6 (b3 0)) ++ scL G b9 (b3 0)) ++ reL G b12 (b3 0) (b6 0)) ++ [(q13, .inl (G.2.1 0, 64, .inl (fun _ => 0))), (q14, .inl (G.2.1 0, 64, .inl (fun _ => 0))), (q15, .inl (G.2.1 3, 4, .inr (.inr (.inr (.inr (va_up (va_up (va_up (va_up (fun _ => none) 0 (some (b27 0))) 1 (some (b30 0))) 2 (some (b33 0))) 3 (some (b36 0))))))))]) ++ stL G b18) ++ stL G b21) ++ stL G b24) ++ stL G b27) ++ stL G b30) ++ stL G b33) ++ stL G b36)
set_option maxHeartbeats 40000000 in
set_option maxRecDepth 100000 in
theorem ct_X6_init {l : Launch} {G : GL} {h0 : Nat} : CtL l G yX6_init cX6_init 2 3 53 217 87328 [.ref h0] ([(h0, .inr (6, [.null, .null, .null, .null, .null, .null, .null, .null, .null, .null, .int 0, .int 0]))]) (fun w1 => ∃ (q13 q14 q15 : Nat) (b3 b6 b9 b12 b18 b21 b24 b27 b30 b33 b36 : Nat → Nat), w1 = twL G h0 q13 q14 q15 b3 b6 b9 b12 b18 b21 b24 b27 b30 b33 b36) := by
  refine ctL_of (L := [some (.ref h0), none]) (by decide +kernel) (List.forall_mem_cons.mpr ⟨rfl, (fun _ h => absurd h List.not_mem_nil)⟩) (Nat.le_of_ble_eq_true rfl) (fun i v h => by
    match i with
    | 0 => exact (Option.some.inj h ▸ rfl)
    | j + 1 => exact absurd h (by rcases j with _ | _ | _ | _ | _ | j <;> simp)) ?_
  intro X sz hsz hX hi hr
  refine l_aload_n hX (i := 0) rfl rfl dX6_init_0 ?_
  refine l_objInit hX (mem_big 65 (by decide +kernel) rfl) (mem_big 66 (by decide +kernel) rfl) (mem_big 67 (by decide +kernel) rfl) dX6_init_1 (Nat.le_of_ble_eq_true rfl) (Nat.le_of_ble_eq_true rfl) ?_
  refine l_aload_n hX (i := 0) rfl rfl dX6_init_4 ?_
  refine l_new (ci := 1) (fs := [.null, .null, .null, .null, .null, .null, .null, .null, .null, .null, .null, .int 0, .int 0]) hX tyX1 tyX1_ok inb_X1 (mem_big 68 (by decide +kernel) rfl) (mem_big 69 (by decide +kernel) rfl) (mem_big 53 (by decide +kernel) rfl) rfl (by decide) (Nat.le_of_ble_eq_true rfl) (Nat.le_of_ble_eq_true rfl) dX6_init_5 (fun q1 => ?_)
  refine l_dup hX rfl dX6_init_8 ?_
  refine l_call (n := 0) (vs := []) (wr := [(h0, .inr (6, [.null, .null, .null, .null, .null, .null, .null, .null, .null, .null, .int 0, .int 0]))]) (wc := [(q1, .inr (1, [.null, .null, .null, .null, .null, .null, .null, .null, .null, .null, .null, .int 0, .int 0]))]) hX (ct_X1_init (h0 := q1)) ⟨⟨Or.inr ⟨"TimeWishes", List.mem_of_getElem? (i := 0) (by decide +kernel)⟩, (mem_big 72 (by decide +kernel) rfl), (mem_big 53 (by decide +kernel) rfl), by decide +kernel⟩, (mem_big 71 (by decide +kernel) rfl), rfl⟩ rfl rfl rfl (Nat.le_of_ble_eq_true rfl) ⟨Nat.le_of_ble_eq_true rfl, Nat.le_of_ble_eq_true rfl⟩ ⟨Nat.le_of_ble_eq_true rfl, Nat.le_of_ble_eq_true rfl⟩ dX6_init_9 (fun w2 hw2 => ?_)
  obtain ⟨b3, hb3, rfl⟩ := hw2
  subst hb3
  refine l_put (ws' := ([(h0, .inr (6, [.ref (b3 0), .null, .null, .null, .null, .null, .null, .null, .null, .null, .int 0, .int 0]))] ++ foL G b3)) hX 0 rfl fq_X6_12 (fun _ => hi) rfl rfl (Nat.le_of_ble_eq_true rfl) rfl dX6_init_12 ?_
  refine l_aload_n hX (i := 0) rfl rfl dX6_init_15 ?_
  refine l_new (ci := 0) (fs := [.null, .null, .null, .null, .int 0, .int 0, .int 0]) hX tyX0 tyX0_ok inb_X0 (mem_big 130 (by decide +kernel) rfl) (mem_big 131 (by decide +kernel) rfl) (mem_big 54 (by decide +kernel) rfl) rfl (by decide) (Nat.le_of_ble_eq_true rfl) (Nat.le_of_ble_eq_true rfl) dX6_init_16 (fun q4 => ?_)
  refine l_dup hX rfl dX6_init_19 ?_
  refine l_aload_n hX (i := 0) rfl rfl dX6_init_20 ?_
  refine l_get hX 0 rfl fq_X6_12 rfl dX6_init_21 ?_
  refine l_call (n := 1) (vs := [.ref (b3 0)]) (wr := ([(h0, .inr (6, [.ref (b3 0), .null, .null, .null, .null, .null, .null, .null, .null, .null, .int 0, .int 0]))] ++ foL G b3)) (wc := [(q4, .inr (0, [.null, .null, .null, .null, .int 0, .int 0, .int 0]))]) hX (ct_X0_init (h0 := q4) (p1 := (b3 0))) ⟨⟨Or.inr ⟨"TimeWishes", List.mem_of_getElem? (i := 1) (by decide +kernel)⟩, (mem_big 134 (by decide +kernel) rfl), (mem_big 54 (by decide +kernel) rfl), by decide +kernel⟩, (mem_big 133 (by decide +kernel) rfl), rfl⟩ rfl rfl rfl (Nat.le_of_ble_eq_true rfl) ⟨Nat.le_of_ble_eq_true rfl, Nat.le_of_ble_eq_true rfl⟩ ⟨Nat.le_of_ble_eq_true rfl, Nat.le_of_ble_eq_true rfl⟩ dX6_init_24 (fun w5 hw5 => ?_)
  obtain ⟨b6, hb6, rfl⟩ := hw5
  subst hb6
  refine l_put (ws' := (([(h0, .inr (6, [.ref (b3 0), .ref (b6 0), .null, .null, .null, .null, .null, .null, .null, .null, .int 0, .int 0]))] ++ foL G b3) ++ chL G b6 (b3 0))) hX 0 rfl fq_X6_21 (fun _ => hi) rfl rfl (Nat.le_of_ble_eq_true rfl) rfl dX6_init_27 ?_
  refine l_aload_n hX (i := 0) rfl rfl dX6_init_30 ?_
  refine l_new (ci := 3) (fs := [.null, .null, .null, .null, .null, .int 0, .int 0]) hX tyX3 tyX3_ok inb_X3 (mem_big 158 (by decide +kernel) rfl) (mem_big 159 (by decide +kernel) rfl) (mem_big 55 (by decide +kernel) rfl) rfl (by decide) (Nat.le_of_ble_eq_true rfl) (Nat.le_of_ble_eq_true rfl) dX6_init_31 (fun q7 => ?_)
  refine l_dup hX rfl dX6_init_34 ?_
  refine l_aload_n hX (i := 0) rfl rfl dX6_init_35 ?_
  refine l_get hX 0 rfl fq_X6_12 rfl dX6_init_36 ?_
  refine l_call (n := 1) (vs := [.ref (b3 0)]) (wr := (([(h0, .inr (6, [.ref (b3 0), .ref (b6 0), .null, .null, .null, .null, .null, .null, .null, .null, .int 0, .int 0]))] ++ foL G b3) ++ chL G b6 (b3 0))) (wc := [(q7, .inr (3, [.null, .null, .null, .null, .null, .int 0, .int 0]))]) hX (ct_X3_init (h0 := q7) (p1 := (b3 0))) ⟨⟨Or.inr ⟨"TimeWishes", List.mem_of_getElem? (i := 2) (by decide +kernel)⟩, (mem_big 162 (by decide +kernel) rfl), (mem_big 55 (by decide +kernel) rfl), by decide +kernel⟩, (mem_big 161 (by decide +kernel) rfl), rfl⟩ rfl rfl rfl (Nat.le_of_ble_eq_true rfl) ⟨Nat.le_of_ble_eq_true rfl, Nat.le_of_ble_eq_true rfl⟩ ⟨Nat.le_of_ble_eq_true rfl, Nat.le_of_ble_eq_true rfl⟩ dX6_init_39 (fun w8 hw8 => ?_)
  obtain ⟨b9, hb9, rfl⟩ := hw8
  subst hb9
  refine l_put (ws' := ((([(h0, .inr (6, [.ref (b3 0), .ref (b6 0), .ref (b9 0), .null, .null, .null, .null, .null, .null, .null, .int 0, .int 0]))] ++ foL G b3) ++ chL G b6 (b3 0)) ++ scL G b9 (b3 0))) hX 0 rfl fq_X6_28 (fun _ => hi) rfl rfl (Nat.le_of_ble_eq_true rfl) rfl dX6_init_42 ?_
  refine l_aload_n hX (i := 0) rfl rfl dX6_init_45 ?_
  refine l_new (ci := 2) (fs := [.null, .null, .null, .null, .null, .int 0, .int 0, .int 0]) hX tyX2 tyX2_ok inb_X2 (mem_big 187 (by decide +kernel) rfl) (mem_big 188 (by decide +kernel) rfl) (mem_big 56 (by decide +kernel) rfl) rfl (by decide) (Nat.le_of_ble_eq_true rfl) (Nat.le_of_ble_eq_true rfl) dX6_init_46 (fun q10 => ?_)
  refine l_dup hX rfl dX6_init_49 ?_
  refine l_aload_n hX (i := 0) rfl rfl dX6_init_50 ?_
  refine l_get hX 0 rfl fq_X6_12 rfl dX6_init_51 ?_
  refine l_aload_n hX (i := 0) rfl rfl dX6_init_54 ?_
  refine l_get hX 0 rfl fq_X6_21 rfl dX6_init_55 ?_
  refine l_call (n := 2) (vs := [.ref (b3 0), .ref (b6 0)]) (wr := ((([(h0, .inr (6, [.ref (b3 0), .ref (b6 0), .ref (b9 0), .null, .null, .null, .null, .null, .null, .null, .int 0, .int 0]))] ++ foL G b3) ++ chL G b6 (b3 0)) ++ scL G b9 (b3 0))) (wc := [(q10, .inr (2, [.null, .null, .null, .null, .null, .int 0, .int 0, .int 0]))]) hX (ct_X2_init (h0 := q10) (p1 := (b3 0)) (p2 := (b6 0))) ⟨⟨Or.inr ⟨"TimeWishes", List.mem_of_getElem? (i := 3) (by decide +kernel)⟩, (mem_big 191 (by decide +kernel) rfl), (mem_big 56 (by decide +kernel) rfl), by decide +kernel⟩, (mem_big 190 (by decide +kernel) rfl), rfl⟩ rfl rfl rfl (Nat.le_of_ble_eq_true rfl) ⟨Nat.le_of_ble_eq_true rfl, Nat.le_of_ble_eq_true rfl⟩ ⟨Nat.le_of_ble_eq_true rfl, Nat.le_of_ble_eq_true rfl⟩ dX6_init_58 (fun w11 hw11 => ?_)
  obtain ⟨b12, hb12, rfl⟩ := hw11
  subst hb12
  refine l_put (ws' := (((([(h0, .inr (6, [.ref (b3 0), .ref (b6 0), .ref (b9 0), .ref (b12 0), .null, .null, .null, .null, .null, .null, .int 0, .int 0]))] ++ foL G b3) ++ chL G b6 (b3 0)) ++ scL G b9 (b3 0)) ++ reL G b12 (b3 0) (b6 0))) hX 0 rfl fq_X6_37 (fun _ => hi) rfl rfl (Nat.le_of_ble_eq_true rfl) rfl dX6_init_61 ?_
  refine l_aload_n hX (i := 0) rfl rfl dX6_init_64 ?_
  refine l_bipush (v := (nI 64)) hX rfl dX6_init_65 ?_
  refine l_newa (N := 64) (t := 0) hX (mem_big 127 (by decide +kernel) rfl) rfl rfl rfl (by decide) (by decide) (Nat.le_of_ble_eq_true rfl) (Nat.le_of_ble_eq_true rfl) (Nat.le_of_ble_eq_true rfl) dX6_init_67 (fun q13 => ?_)
  refine l_put (ws' := ((((([(h0, .inr (6, [.ref (b3 0), .ref (b6 0), .ref (b9 0), .ref (b12 0), .ref q13, .null, .null, .null, .null, .null, .int 0, .int 0]))] ++ foL G b3) ++ chL G b6 (b3 0)) ++ scL G b9 (b3 0)) ++ reL G b12 (b3 0) (b6 0)) ++ [(q13, .inl (G.2.1 0, 64, .inl (fun _ => 0)))])) hX 0 rfl fq_X6_41 (fun _ => hi) rfl rfl (Nat.le_of_ble_eq_true rfl) rfl dX6_init_69 ?_
  refine l_aload_n hX (i := 0) rfl rfl dX6_init_72 ?_
  refine l_bipush (v := (nI 64)) hX rfl dX6_init_73 ?_
  refine l_newa (N := 64) (t := 0) hX (mem_big 127 (by decide +kernel) rfl) rfl rfl rfl (by decide) (by decide) (Nat.le_of_ble_eq_true rfl) (Nat.le_of_ble_eq_true rfl) (Nat.le_of_ble_eq_true rfl) dX6_init_75 (fun q14 => ?_)
  refine KL.world (ws' := ((((([(h0, .inr (6, [.ref (b3 0), .ref (b6 0), .ref (b9 0), .ref (b12 0), .ref q13, .null, .null, .null, .null, .null, .int 0, .int 0]))] ++ foL G b3) ++ chL G b6 (b3 0)) ++ scL G b9 (b3 0)) ++ reL G b12 (b3 0) (b6 0)) ++ [(q13, .inl (G.2.1 0, 64, .inl (fun _ => 0))), (q14, .inl (G.2.1 0, 64, .inl (fun _ => 0)))])) rfl ?_
  refine l_put (ws' := ((((([(h0, .inr (6, [.ref (b3 0), .ref (b6 0), .ref (b9 0), .ref (b12 0), .ref q13, .ref q14, .null, .null, .null, .null, .int 0, .int 0]))] ++ foL G b3) ++ chL G b6 (b3 0)) ++ scL G b9 (b3 0)) ++ reL G b12 (b3 0) (b6 0)) ++ [(q13, .inl (G.2.1 0, 64, .inl (fun _ => 0))), (q14, .inl (G.2.1 0, 64, .inl (fun _ => 0)))])) hX 0 rfl fq_X6_45 (fun _ => hi) rfl rfl (Nat.le_of_ble_eq_true rfl) rfl dX6_init_77 ?_
  refine l_aload_n hX (i := 0) rfl rfl dX6_init_80 ?_
  refine l_iconst (v := (nI 4)) hX rfl dX6_init_81 ?_
  refine l_newq (N := 4) (t := 3) hX (mem_big 219 (by decide +kernel) rfl) (fun h => h.1) rfl (by decide) (by decide) (Nat.le_of_ble_eq_true rfl) (Nat.le_of_ble_eq_true rfl) (Nat.le_of_ble_eq_true rfl) dX6_init_82 (fun q15 => ?_)
  refine KL.world (ws' := ((((([(h0, .inr (6, [.ref (b3 0), .ref (b6 0), .ref (b9 0), .ref (b12 0), .ref q13, .ref q14, .null, .null, .null, .null, .int 0, .int 0]))] ++ foL G b3) ++ chL G b6 (b3 0)) ++ scL G b9 (b3 0)) ++ reL G b12 (b3 0) (b6 0)) ++ [(q13, .inl (G.2.1 0, 64, .inl (fun _ => 0))), (q14, .inl (G.2.1 0, 64, .inl (fun _ => 0))), (q15, .inl (G.2.1 3, 4, .inr (.inr (.inr (.inr (fun _ => none))))))])) rfl ?_
  refine l_put (ws' := ((((([(h0, .inr (6, [.ref (b3 0), .ref (b6 0), .ref (b9 0), .ref (b12 0), .ref q13, .ref q14, .ref q15, .null, .null, .null, .int 0, .int 0]))] ++ foL G b3) ++ chL G b6 (b3 0)) ++ scL G b9 (b3 0)) ++ reL G b12 (b3 0) (b6 0)) ++ [(q13, .inl (G.2.1 0, 64, .inl (fun _ => 0))), (q14, .inl (G.2.1 0, 64, .inl (fun _ => 0))), (q15, .inl (G.2.1 3, 4, .inr (.inr (.inr (.inr (fun _ => none))))))])) hX 0 rfl fq_X6_50 (fun _ => hi) rfl rfl (Nat.le_of_ble_eq_true rfl) rfl dX6_init_85 ?_
  refine l_aload_n hX (i := 0) rfl rfl dX6_init_88 ?_
  refine l_new (ci := 4) (fs := [.int 0, .int 0, .int 0, .null, .null]) hX tyX4 tyX4_ok inb_X4 (mem_big 219 (by decide +kernel) rfl) (mem_big 221 (by decide +kernel) rfl) (mem_big 57 (by decide +kernel) rfl) rfl (by decide) (Nat.le_of_ble_eq_true rfl) (Nat.le_of_ble_eq_true rfl) dX6_init_89 (fun q16 => ?_)
  refine l_dup hX rfl dX6_init_92 ?_
  refine l_call (n := 0) (vs := []) (wr := ((((([(h0, .inr (6, [.ref (b3 0), .ref (b6 0), .ref (b9 0), .ref (b12 0), .ref q13, .ref q14, .ref q15, .null, .null, .null, .int 0, .int 0]))] ++ foL G b3) ++ chL G b6 (b3 0)) ++ scL G b9 (b3 0)) ++ reL G b12 (b3 0) (b6 0)) ++ [(q13, .inl (G.2.1 0, 64, .inl (fun _ => 0))), (q14, .inl (G.2.1 0, 64, .inl (fun _ => 0))), (q15, .inl (G.2.1 3, 4, .inr (.inr (.inr (.inr (fun _ => none))))))])) (wc := [(q16, .inr (4, [.int 0, .int 0, .int 0, .null, .null]))]) hX (ct_X4_init (h0 := q16)) ⟨⟨Or.inr ⟨"TimeWishes", List.mem_of_getElem? (i := 4) (by decide +kernel)⟩, (mem_big 224 (by decide +kernel) rfl), (mem_big 57 (by decide +kernel) rfl), by decide +kernel⟩, (mem_big 223 (by decide +kernel) rfl), rfl⟩ rfl rfl rfl (Nat.le_of_ble_eq_true rfl) ⟨Nat.le_of_ble_eq_true rfl, Nat.le_of_ble_eq_true rfl⟩ ⟨Nat.le_of_ble_eq_true rfl, Nat.le_of_ble_eq_true rfl⟩ dX6_init_93 (fun w17 hw17 => ?_)
  obtain ⟨b18, hb18, rfl⟩ := hw17
  subst hb18
  refine l_put (ws' := (((((([(h0, .inr (6, [.ref (b3 0), .ref (b6 0), .ref (b9 0), .ref (b12 0), .ref q13, .ref q14, .ref q15, .ref (b18 0), .null, .null, .int 0, .int 0]))] ++ foL G b3) ++ chL G b6 (b3 0)) ++ scL G b9 (b3 0)) ++ reL G b12 (b3 0) (b6 0)) ++ [(q13, .inl (G.2.1 0, 64, .inl (fun _ => 0))), (q14, .inl (G.2.1 0, 64, .inl (fun _ => 0))), (q15, .inl (G.2.1 3, 4, .inr (.inr (.inr (.inr (fun _ => none))))))]) ++ stL G b18)) hX 0 rfl fq_X6_55 (fun _ => hi) rfl rfl (Nat.le_of_ble_eq_true rfl) rfl dX6_init_96 ?_
  refine l_aload_n hX (i := 0) rfl rfl dX6_init_99 ?_
  refine l_new (ci := 4) (fs := [.int 0, .int 0, .int 0, .null, .null]) hX tyX4 tyX4_ok inb_X4 (mem_big 219 (by decide +kernel) rfl) (mem_big 221 (by decide +kernel) rfl) (mem_big 57 (by decide +kernel) rfl) rfl (by decide) (Nat.le_of_ble_eq_true rfl) (Nat.le_of_ble_eq_true rfl) dX6_init_100 (fun q19 => ?_)
  refine l_dup hX rfl dX6_init_103 ?_
  refine l_call (n := 0) (vs := []) (wr := (((((([(h0, .inr (6, [.ref (b3 0), .ref (b6 0), .ref (b9 0), .ref (b12 0), .ref q13, .ref q14, .ref q15, .ref (b18 0), .null, .null, .int 0, .int 0]))] ++ foL G b3) ++ chL G b6 (b3 0)) ++ scL G b9 (b3 0)) ++ reL G b12 (b3 0) (b6 0)) ++ [(q13, .inl (G.2.1 0, 64, .inl (fun _ => 0))), (q14, .inl (G.2.1 0, 64, .inl (fun _ => 0))), (q15, .inl (G.2.1 3, 4, .inr (.inr (.inr (.inr (fun _ => none))))))]) ++ stL G b18)) (wc := [(q19, .inr (4, [.int 0, .int 0, .int 0, .null, .null]))]) hX (ct_X4_init (h0 := q19)) ⟨⟨Or.inr ⟨"TimeWishes", List.mem_of_getElem? (i := 4) (by decide +kernel)⟩, (mem_big 224 (by decide +kernel) rfl), (mem_big 57 (by decide +kernel) rfl), by decide +kernel⟩, (mem_big 223 (by decide +kernel) rfl), rfl⟩ rfl rfl rfl (Nat.le_of_ble_eq_true rfl) ⟨Nat.le_of_ble_eq_true rfl, Nat.le_of_ble_eq_true rfl⟩ ⟨Nat.le_of_ble_eq_true rfl, Nat.le_of_ble_eq_true rfl⟩ dX6_init_104 (fun w20 hw20 => ?_)
  obtain ⟨b21, hb21, rfl⟩ := hw20
  subst hb21
  refine l_put (ws' := ((((((([(h0, .inr (6, [.ref (b3 0), .ref (b6 0), .ref (b9 0), .ref (b12 0), .ref q13, .ref q14, .ref q15, .ref (b18 0), .ref (b21 0), .null, .int 0, .int 0]))] ++ foL G b3) ++ chL G b6 (b3 0)) ++ scL G b9 (b3 0)) ++ reL G b12 (b3 0) (b6 0)) ++ [(q13, .inl (G.2.1 0, 64, .inl (fun _ => 0))), (q14, .inl (G.2.1 0, 64, .inl (fun _ => 0))), (q15, .inl (G.2.1 3, 4, .inr (.inr (.inr (.inr (fun _ => none))))))]) ++ stL G b18) ++ stL G b21)) hX 0 rfl fq_X6_59 (fun h => by cases h) rfl rfl (Nat.le_of_ble_eq_true rfl) rfl dX6_init_107 ?_
  refine l_aload_n hX (i := 0) rfl rfl dX6_init_110 ?_
  refine l_new (ci := 4) (fs := [.int 0, .int 0, .int 0, .null, .null]) hX tyX4 tyX4_ok inb_X4 (mem_big 219 (by decide +kernel) rfl) (mem_big 221 (by decide +kernel) rfl) (mem_big 57 (by decide +kernel) rfl) rfl (by decide) (Nat.le_of_ble_eq_true rfl) (Nat.le_of_ble_eq_true rfl) dX6_init_111 (fun q22 => ?_)
  refine l_dup hX rfl dX6_init_114 ?_
  refine l_call (n := 0) (vs := []) (wr := ((((((([(h0, .inr (6, [.ref (b3 0), .ref (b6 0), .ref (b9 0), .ref (b12 0), .ref q13, .ref q14, .ref q15, .ref (b18 0), .ref (b21 0), .null, .int 0, .int 0]))] ++ foL G b3) ++ chL G b6 (b3 0)) ++ scL G b9 (b3 0)) ++ reL G b12 (b3 0) (b6 0)) ++ [(q13, .inl (G.2.1 0, 64, .inl (fun _ => 0))), (q14, .inl (G.2.1 0, 64, .inl (fun _ => 0))), (q15, .inl (G.2.1 3, 4, .inr (.inr (.inr (.inr (fun _ => none))))))]) ++ stL G b18) ++ stL G b21)) (wc := [(q22, .inr (4, [.int 0, .int 0, .int 0, .null, .null]))]) hX (ct_X4_init (h0 := q22)) ⟨⟨Or.inr ⟨"TimeWishes", List.mem_of_getElem? (i := 4) (by decide +kernel)⟩, (mem_big 224 (by decide +kernel) rfl), (mem_big 57 (by decide +kernel) rfl), by decide +kernel⟩, (mem_big 223 (by decide +kernel) rfl), rfl⟩ rfl rfl rfl (Nat.le_of_ble_eq_true rfl) ⟨Nat.le_of_ble_eq_true rfl, Nat.le_of_ble_eq_true rfl⟩ ⟨Nat.le_of_ble_eq_true rfl, Nat.le_of_ble_eq_true rfl⟩ dX6_init_115 (fun w23 hw23 => ?_)
  obtain ⟨b24, hb24, rfl⟩ := hw23
  subst hb24
  refine l_put (ws' := (((((((([(h0, .inr (6, [.ref (b3 0), .ref (b6 0), .ref (b9 0), .ref (b12 0), .ref q13, .ref q14, .ref q15, .ref (b18 0), .ref (b21 0), .ref (b24 0), .int 0, .int 0]))] ++ foL G b3) ++ chL G b6 (b3 0)) ++ scL G b9 (b3 0)) ++ reL G b12 (b3 0) (b6 0)) ++ [(q13, .inl (G.2.1 0, 64, .inl (fun _ => 0))), (q14, .inl (G.2.1 0, 64, .inl (fun _ => 0))), (q15, .inl (G.2.1 3, 4, .inr (.inr (.inr (.inr (fun _ => none))))))]) ++ stL G b18) ++ stL G b21) ++ stL G b24)) hX 0 rfl fq_X6_62 (fun h => by cases h) rfl rfl (Nat.le_of_ble_eq_true rfl) rfl dX6_init_118 ?_
  refine l_iconst (v := (nI 0)) hX rfl dX6_init_121 ?_
  refine l_istore_n (L' := [some (.ref h0), some (.int (nI 0))]) hX (i := 1) rfl (by decide) rfl dX6_init_122 ?_
  refine l_iload_n hX (i := 1) rfl rfl dX6_init_123 ?_
  refine l_iconst (v := (nI 4)) hX rfl dX6_init_124 ?_
  refine l_ge_f (tgt := 147) hX (by decide) dX6_init_125 (by decide) ?_
  refine l_aload_n hX (i := 0) rfl rfl dX6_init_128 ?_
  refine l_get hX 0 rfl fq_X6_50 rfl dX6_init_129 ?_
  refine l_iload_n hX (i := 1) rfl rfl dX6_init_132 ?_
  refine l_new (ci := 4) (fs := [.int 0, .int 0, .int 0, .null, .null]) hX tyX4 tyX4_ok inb_X4 (mem_big 219 (by decide +kernel) rfl) (mem_big 221 (by decide +kernel) rfl) (mem_big 57 (by decide +kernel) rfl) rfl (by decide) (Nat.le_of_ble_eq_true rfl) (Nat.le_of_ble_eq_true rfl) dX6_init_133 (fun q25 => ?_)
  refine l_dup hX rfl dX6_init_136 ?_
  refine l_call (n := 0) (vs := []) (wr := (((((((([(h0, .inr (6, [.ref (b3 0), .ref (b6 0), .ref (b9 0), .ref (b12 0), .ref q13, .ref q14, .ref q15, .ref (b18 0), .ref (b21 0), .ref (b24 0), .int 0, .int 0]))] ++ foL G b3) ++ chL G b6 (b3 0)) ++ scL G b9 (b3 0)) ++ reL G b12 (b3 0) (b6 0)) ++ [(q13, .inl (G.2.1 0, 64, .inl (fun _ => 0))), (q14, .inl (G.2.1 0, 64, .inl (fun _ => 0))), (q15, .inl (G.2.1 3, 4, .inr (.inr (.inr (.inr (fun _ => none))))))]) ++ stL G b18) ++ stL G b21) ++ stL G b24)) (wc := [(q25, .inr (4, [.int 0, .int 0, .int 0, .null, .null]))]) hX (ct_X4_init (h0 := q25)) ⟨⟨Or.inr ⟨"TimeWishes", List.mem_of_getElem? (i := 4) (by decide +kernel)⟩, (mem_big 224 (by decide +kernel) rfl), (mem_big 57 (by decide +kernel) rfl), by decide +kernel⟩, (mem_big 223 (by decide +kernel) rfl), rfl⟩ rfl rfl rfl (Nat.le_of_ble_eq_true rfl) ⟨Nat.le_of_ble_eq_true rfl, Nat.le_of_ble_eq_true rfl⟩ ⟨Nat.le_of_ble_eq_true rfl, Nat.le_of_ble_eq_true rfl⟩ dX6_init_137 (fun w26 hw26 => ?_)
  obtain ⟨b27, hb27, rfl⟩ := hw26
  subst hb27
  refine l_astq (r := (RX4, TX4, 5)) (ci := 4) (ws' := ((((((((([(h0, .inr (6, [.ref (b3 0), .ref (b6 0), .ref (b9 0), .ref (b12 0), .ref q13, .ref q14, .ref q15, .ref (b18 0), .ref (b21 0), .ref (b24 0), .int 0, .int 0]))] ++ foL G b3) ++ chL G b6 (b3 0)) ++ scL G b9 (b3 0)) ++ reL G b12 (b3 0) (b6 0)) ++ [(q13, .inl (G.2.1 0, 64, .inl (fun _ => 0))), (q14, .inl (G.2.1 0, 64, .inl (fun _ => 0))), (q15, .inl (G.2.1 3, 4, .inr (.inr (.inr (.inr (va_up (fun _ => none) 0 (some (b27 0))))))))]) ++ stL G b18) ++ stL G b21) ++ stL G b24) ++ stL G b27)) hX 28 110 rfl rfl rfl rfl (by unfold vp_in; decide) rfl rfl dX6_init_140 ?_
  refine l_iinc (v := (nI 1)) (L' := [some (.ref h0), some (.int (nI 1))]) hX (i := 1) rfl (by decide) (by decide) rfl dX6_init_141 ?_
  refine l_goto (tgt := 123) hX dX6_init_144 (by decide) ?_
  refine l_iload_n hX (i := 1) rfl rfl dX6_init_123 ?_
  refine l_iconst (v := (nI 4)) hX rfl dX6_init_124 ?_
  refine l_ge_f (tgt := 147) hX (by decide) dX6_init_125 (by decide) ?_
  refine l_aload_n hX (i := 0) rfl rfl dX6_init_128 ?_
  refine l_get hX 0 rfl fq_X6_50 rfl dX6_init_129 ?_
  refine l_iload_n hX (i := 1) rfl rfl dX6_init_132 ?_
  refine l_new (ci := 4) (fs := [.int 0, .int 0, .int 0, .null, .null]) hX tyX4 tyX4_ok inb_X4 (mem_big 219 (by decide +kernel) rfl) (mem_big 221 (by decide +kernel) rfl) (mem_big 57 (by decide +kernel) rfl) rfl (by decide) (Nat.le_of_ble_eq_true rfl) (Nat.le_of_ble_eq_true rfl) dX6_init_133 (fun q28 => ?_)
  refine l_dup hX rfl dX6_init_136 ?_
  refine l_call (n := 0) (vs := []) (wr := ((((((((([(h0, .inr (6, [.ref (b3 0), .ref (b6 0), .ref (b9 0), .ref (b12 0), .ref q13, .ref q14, .ref q15, .ref (b18 0), .ref (b21 0), .ref (b24 0), .int 0, .int 0]))] ++ foL G b3) ++ chL G b6 (b3 0)) ++ scL G b9 (b3 0)) ++ reL G b12 (b3 0) (b6 0)) ++ [(q13, .inl (G.2.1 0, 64, .inl (fun _ => 0))), (q14, .inl (G.2.1 0, 64, .inl (fun _ => 0))), (q15, .inl (G.2.1 3, 4, .inr (.inr (.inr (.inr (va_up (fun _ => none) 0 (some (b27 0))))))))]) ++ stL G b18) ++ stL G b21) ++ stL G b24) ++ stL G b27)) (wc := [(q28, .inr (4, [.int 0, .int 0, .int 0, .null, .null]))]) hX (ct_X4_init (h0 := q28)) ⟨⟨Or.inr ⟨"TimeWishes", List.mem_of_getElem? (i := 4) (by decide +kernel)⟩, (mem_big 224 (by decide +kernel) rfl), (mem_big 57 (by decide +kernel) rfl), by decide +kernel⟩, (mem_big 223 (by decide +kernel) rfl), rfl⟩ rfl rfl rfl (Nat.le_of_ble_eq_true rfl) ⟨Nat.le_of_ble_eq_true rfl, Nat.le_of_ble_eq_true rfl⟩ ⟨Nat.le_of_ble_eq_true rfl, Nat.le_of_ble_eq_true rfl⟩ dX6_init_137 (fun w29 hw29 => ?_)
  obtain ⟨b30, hb30, rfl⟩ := hw29
  subst hb30
  refine l_astq (r := (RX4, TX4, 5)) (ci := 4) (ws' := (((((((((([(h0, .inr (6, [.ref (b3 0), .ref (b6 0), .ref (b9 0), .ref (b12 0), .ref q13, .ref q14, .ref q15, .ref (b18 0), .ref (b21 0), .ref (b24 0), .int 0, .int 0]))] ++ foL G b3) ++ chL G b6 (b3 0)) ++ scL G b9 (b3 0)) ++ reL G b12 (b3 0) (b6 0)) ++ [(q13, .inl (G.2.1 0, 64, .inl (fun _ => 0))), (q14, .inl (G.2.1 0, 64, .inl (fun _ => 0))), (q15, .inl (G.2.1 3, 4, .inr (.inr (.inr (.inr (va_up (va_up (fun _ => none) 0 (some (b27 0))) 1 (some (b30 0))))))))]) ++ stL G b18) ++ stL G b21) ++ stL G b24) ++ stL G b27) ++ stL G b30)) hX 28 137 rfl rfl rfl rfl (by unfold vp_in; decide) rfl rfl dX6_init_140 ?_
  refine l_iinc (v := (nI 2)) (L' := [some (.ref h0), some (.int (nI 2))]) hX (i := 1) rfl (by decide) (by decide) rfl dX6_init_141 ?_
  refine l_goto (tgt := 123) hX dX6_init_144 (by decide) ?_
  refine l_iload_n hX (i := 1) rfl rfl dX6_init_123 ?_
  refine l_iconst (v := (nI 4)) hX rfl dX6_init_124 ?_
  refine l_ge_f (tgt := 147) hX (by decide) dX6_init_125 (by decide) ?_
  refine l_aload_n hX (i := 0) rfl rfl dX6_init_128 ?_
  refine l_get hX 0 rfl fq_X6_50 rfl dX6_init_129 ?_
  refine l_iload_n hX (i := 1) rfl rfl dX6_init_132 ?_
  refine l_new (ci := 4) (fs := [.int 0, .int 0, .int 0, .null, .null]) hX tyX4 tyX4_ok inb_X4 (mem_big 219 (by decide +kernel) rfl) (mem_big 221 (by decide +kernel) rfl) (mem_big 57 (by decide +kernel) rfl) rfl (by decide) (Nat.le_of_ble_eq_true rfl) (Nat.le_of_ble_eq_true rfl) dX6_init_133 (fun q31 => ?_)
  refine l_dup hX rfl dX6_init_136 ?_
  refine l_call (n := 0) (vs := []) (wr := (((((((((([(h0, .inr (6, [.ref (b3 0), .ref (b6 0), .ref (b9 0), .ref (b12 0), .ref q13, .ref q14, .ref q15, .ref (b18 0), .ref (b21 0), .ref (b24 0), .int 0, .int 0]))] ++ foL G b3) ++ chL G b6 (b3 0)) ++ scL G b9 (b3 0)) ++ reL G b12 (b3 0) (b6 0)) ++ [(q13, .inl (G.2.1 0, 64, .inl (fun _ => 0))), (q14, .inl (G.2.1 0, 64, .inl (fun _ => 0))), (q15, .inl (G.2.1 3, 4, .inr (.inr (.inr (.inr (va_up (va_up (fun _ => none) 0 (some (b27 0))) 1 (some (b30 0))))))))]) ++ stL G b18) ++ stL G b21) ++ stL G b24) ++ stL G b27) ++ stL G b30)) (wc := [(q31, .inr (4, [.int 0, .int 0, .int 0, .null, .null]))]) hX (ct_X4_init (h0 := q31)) ⟨⟨Or.inr ⟨"TimeWishes", List.mem_of_getElem? (i := 4) (by decide +kernel)⟩, (mem_big 224 (by decide +kernel) rfl), (mem_big 57 (by decide +kernel) rfl), by decide +kernel⟩, (mem_big 223 (by decide +kernel) rfl), rfl⟩ rfl rfl rfl (Nat.le_of_ble_eq_true rfl) ⟨Nat.le_of_ble_eq_true rfl, Nat.le_of_ble_eq_true rfl⟩ ⟨Nat.le_of_ble_eq_true rfl, Nat.le_of_ble_eq_true rfl⟩ dX6_init_137 (fun w32 hw32 => ?_)
  obtain ⟨b33, hb33, rfl⟩ := hw32
  subst hb33
  refine l_astq (r := (RX4, TX4, 5)) (ci := 4) (ws' := ((((((((((([(h0, .inr (6, [.ref (b3 0), .ref (b6 0), .ref (b9 0), .ref (b12 0), .ref q13, .ref q14, .ref q15, .ref (b18 0), .ref (b21 0), .ref (b24 0), .int 0, .int 0]))] ++ foL G b3) ++ chL G b6 (b3 0)) ++ scL G b9 (b3 0)) ++ reL G b12 (b3 0) (b6 0)) ++ [(q13, .inl (G.2.1 0, 64, .inl (fun _ => 0))), (q14, .inl (G.2.1 0, 64, .inl (fun _ => 0))), (q15, .inl (G.2.1 3, 4, .inr (.inr (.inr (.inr (va_up (va_up (va_up (fun _ => none) 0 (some (b27 0))) 1 (some (b30 0))) 2 (some (b33 0))))))))]) ++ stL G b18) ++ stL G b21) ++ stL G b24) ++ stL G b27) ++ stL G b30) ++ stL G b33)) hX 28 164 rfl rfl rfl rfl (by unfold vp_in; decide) rfl rfl dX6_init_140 ?_
  refine l_iinc (v := (nI 3)) (L' := [some (.ref h0), some (.int (nI 3))]) hX (i := 1) rfl (by decide) (by decide) rfl dX6_init_141 ?_
  refine l_goto (tgt := 123) hX dX6_init_144 (by decide) ?_
  refine l_iload_n hX (i := 1) rfl rfl dX6_init_123 ?_
  refine l_iconst (v := (nI 4)) hX rfl dX6_init_124 ?_
  refine l_ge_f (tgt := 147) hX (by decide) dX6_init_125 (by decide) ?_
  refine l_aload_n hX (i := 0) rfl rfl dX6_init_128 ?_
  refine l_get hX 0 rfl fq_X6_50 rfl dX6_init_129 ?_
  refine l_iload_n hX (i := 1) rfl rfl dX6_init_132 ?_
  refine l_new (ci := 4) (fs := [.int 0, .int 0, .int 0, .null, .null]) hX tyX4 tyX4_ok inb_X4 (mem_big 219 (by decide +kernel) rfl) (mem_big 221 (by decide +kernel) rfl) (mem_big 57 (by decide +kernel) rfl) rfl (by decide) (Nat.le_of_ble_eq_true rfl) (Nat.le_of_ble_eq_true rfl) dX6_init_133 (fun q34 => ?_)
  refine l_dup hX rfl dX6_init_136 ?_
  refine l_call (n := 0) (vs := []) (wr := ((((((((((([(h0, .inr (6, [.ref (b3 0), .ref (b6 0), .ref (b9 0), .ref (b12 0), .ref q13, .ref q14, .ref q15, .ref (b18 0), .ref (b21 0), .ref (b24 0), .int 0, .int 0]))] ++ foL G b3) ++ chL G b6 (b3 0)) ++ scL G b9 (b3 0)) ++ reL G b12 (b3 0) (b6 0)) ++ [(q13, .inl (G.2.1 0, 64, .inl (fun _ => 0))), (q14, .inl (G.2.1 0, 64, .inl (fun _ => 0))), (q15, .inl (G.2.1 3, 4, .inr (.inr (.inr (.inr (va_up (va_up (va_up (fun _ => none) 0 (some (b27 0))) 1 (some (b30 0))) 2 (some (b33 0))))))))]) ++ stL G b18) ++ stL G b21) ++ stL G b24) ++ stL G b27) ++ stL G b30) ++ stL G b33)) (wc := [(q34, .inr (4, [.int 0, .int 0, .int 0, .null, .null]))]) hX (ct_X4_init (h0 := q34)) ⟨⟨Or.inr ⟨"TimeWishes", List.mem_of_getElem? (i := 4) (by decide +kernel)⟩, (mem_big 224 (by decide +kernel) rfl), (mem_big 57 (by decide +kernel) rfl), by decide +kernel⟩, (mem_big 223 (by decide +kernel) rfl), rfl⟩ rfl rfl rfl (Nat.le_of_ble_eq_true rfl) ⟨Nat.le_of_ble_eq_true rfl, Nat.le_of_ble_eq_true rfl⟩ ⟨Nat.le_of_ble_eq_true rfl, Nat.le_of_ble_eq_true rfl⟩ dX6_init_137 (fun w35 hw35 => ?_)
  obtain ⟨b36, hb36, rfl⟩ := hw35
  subst hb36
  refine l_astq (r := (RX4, TX4, 5)) (ci := 4) (ws' := (((((((((((([(h0, .inr (6, [.ref (b3 0), .ref (b6 0), .ref (b9 0), .ref (b12 0), .ref q13, .ref q14, .ref q15, .ref (b18 0), .ref (b21 0), .ref (b24 0), .int 0, .int 0]))] ++ foL G b3) ++ chL G b6 (b3 0)) ++ scL G b9 (b3 0)) ++ reL G b12 (b3 0) (b6 0)) ++ [(q13, .inl (G.2.1 0, 64, .inl (fun _ => 0))), (q14, .inl (G.2.1 0, 64, .inl (fun _ => 0))), (q15, .inl (G.2.1 3, 4, .inr (.inr (.inr (.inr (va_up (va_up (va_up (va_up (fun _ => none) 0 (some (b27 0))) 1 (some (b30 0))) 2 (some (b33 0))) 3 (some (b36 0))))))))]) ++ stL G b18) ++ stL G b21) ++ stL G b24) ++ stL G b27) ++ stL G b30) ++ stL G b33) ++ stL G b36)) hX 28 191 rfl rfl rfl rfl (by unfold vp_in; decide) rfl rfl dX6_init_140 ?_
  refine l_iinc (v := (nI 4)) (L' := [some (.ref h0), some (.int (nI 4))]) hX (i := 1) rfl (by decide) (by decide) rfl dX6_init_141 ?_
  refine l_goto (tgt := 123) hX dX6_init_144 (by decide) ?_
  refine l_iload_n hX (i := 1) rfl rfl dX6_init_123 ?_
  refine l_iconst (v := (nI 4)) hX rfl dX6_init_124 ?_
  refine l_ge_t (tgt := 147) hX (by decide) dX6_init_125 (by decide) ?_
  exact l_vret hX hr (⟨q13, q14, q15, b3, b6, b9, b12, b18, b21, b24, b27, b30, b33, b36, rfl⟩) dX6_init_147
