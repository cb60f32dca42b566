section
-- ===== PART A: goes FIRST, ahead of the names: the tables' words, and 'selects' of the private methods out of them =====
/-- a private method of a class that the tables say can be made, by its rows of tables_1 -/
def lw_okq (q : MethodName × Nat) : Prop := (q.1.cls ≠ "java/lang/invoke/MethodHandle" ∧ q.1.cls ≠ "java/lang/invoke/VarHandle") ∧ Cond.instantiable q.1.cls q.2 ∈ tables_1 ∧ Cond.privateMethod q.1 ∈ tables_1 ∧ Cond.instanceMethod q.1 ∈ tables_1
theorem lw_p0 : lw_okq (⟨"TimeWishes$State", "copyFrom", "(LTimeWishes$State;)V"⟩, 5) := ⟨⟨by decide +kernel, by decide +kernel⟩, List.mem_of_getElem? (i := 171) (by decide +kernel), List.mem_of_getElem? (i := 282) (by decide +kernel), List.mem_of_getElem? (i := 283) (by decide +kernel)⟩
theorem lw_p1 : lw_okq (⟨"TimeWishes$Wish", "copyFrom", "(LTimeWishes$Wish;)V"⟩, 8) := ⟨⟨by decide +kernel, by decide +kernel⟩, List.mem_of_getElem? (i := 178) (by decide +kernel), List.mem_of_getElem? (i := 289) (by decide +kernel), List.mem_of_getElem? (i := 290) (by decide +kernel)⟩
theorem lw_p2 : lw_okq (⟨"TimeWishes", "rewriteParts", "(LTimeWishes$Wish;LTimeWishes$Wish;I)Z"⟩, 12) := ⟨⟨by decide +kernel, by decide +kernel⟩, List.mem_of_getElem? (i := 11) (by decide +kernel), List.mem_of_getElem? (i := 294) (by decide +kernel), List.mem_of_getElem? (i := 295) (by decide +kernel)⟩
theorem lw_p3 : lw_okq (⟨"TimeWishes", "loadAlone", "(LTimeWishes$Wish;I)I"⟩, 12) := ⟨⟨by decide +kernel, by decide +kernel⟩, List.mem_of_getElem? (i := 11) (by decide +kernel), List.mem_of_getElem? (i := 298) (by decide +kernel), List.mem_of_getElem? (i := 299) (by decide +kernel)⟩
theorem lw_p4 : lw_okq (⟨"TimeWishes$Forms", "release", "(I)V"⟩, 13) := ⟨⟨by decide +kernel, by decide +kernel⟩, List.mem_of_getElem? (i := 19) (by decide +kernel), List.mem_of_getElem? (i := 302) (by decide +kernel), List.mem_of_getElem? (i := 303) (by decide +kernel)⟩
theorem lw_p5 : lw_okq (⟨"TimeWishes$Scribe", "load", "(LTimeWishes$Wish;I)I"⟩, 7) := ⟨⟨by decide +kernel, by decide +kernel⟩, List.mem_of_getElem? (i := 109) (by decide +kernel), List.mem_of_getElem? (i := 306) (by decide +kernel), List.mem_of_getElem? (i := 307) (by decide +kernel)⟩
theorem lw_p6 : lw_okq (⟨"TimeWishes$Forms", "make", "(I[III)I"⟩, 13) := ⟨⟨by decide +kernel, by decide +kernel⟩, List.mem_of_getElem? (i := 19) (by decide +kernel), List.mem_of_getElem? (i := 310) (by decide +kernel), List.mem_of_getElem? (i := 311) (by decide +kernel)⟩
theorem lw_p7 : lw_okq (⟨"TimeWishes$Forms", "isMadeOf", "(II[III)Z"⟩, 13) := ⟨⟨by decide +kernel, by decide +kernel⟩, List.mem_of_getElem? (i := 19) (by decide +kernel), List.mem_of_getElem? (i := 314) (by decide +kernel), List.mem_of_getElem? (i := 315) (by decide +kernel)⟩
theorem lw_p8 : lw_okq (⟨"TimeWishes$Forms", "describe", "(I)V"⟩, 13) := ⟨⟨by decide +kernel, by decide +kernel⟩, List.mem_of_getElem? (i := 19) (by decide +kernel), List.mem_of_getElem? (i := 319) (by decide +kernel), List.mem_of_getElem? (i := 320) (by decide +kernel)⟩
theorem lw_p9 : lw_okq (⟨"TimeWishes$Changes", "behind", "(II)I"⟩, 7) := ⟨⟨by decide +kernel, by decide +kernel⟩, List.mem_of_getElem? (i := 81) (by decide +kernel), List.mem_of_getElem? (i := 323) (by decide +kernel), List.mem_of_getElem? (i := 324) (by decide +kernel)⟩
theorem lw_p10 : lw_okq (⟨"TimeWishes$Forms", "kid", "(II)I"⟩, 13) := ⟨⟨by decide +kernel, by decide +kernel⟩, List.mem_of_getElem? (i := 19) (by decide +kernel), List.mem_of_getElem? (i := 327) (by decide +kernel), List.mem_of_getElem? (i := 328) (by decide +kernel)⟩
theorem lw_p11 : lw_okq (⟨"TimeWishes$Changes", "two", "(III)I"⟩, 7) := ⟨⟨by decide +kernel, by decide +kernel⟩, List.mem_of_getElem? (i := 81) (by decide +kernel), List.mem_of_getElem? (i := 331) (by decide +kernel), List.mem_of_getElem? (i := 332) (by decide +kernel)⟩
theorem lw_p12 : lw_okq (⟨"TimeWishes$Changes", "begin", "(I)V"⟩, 7) := ⟨⟨by decide +kernel, by decide +kernel⟩, List.mem_of_getElem? (i := 81) (by decide +kernel), List.mem_of_getElem? (i := 335) (by decide +kernel), List.mem_of_getElem? (i := 336) (by decide +kernel)⟩
theorem lw_p13 : lw_okq (⟨"TimeWishes$Changes", "put", "(I)V"⟩, 7) := ⟨⟨by decide +kernel, by decide +kernel⟩, List.mem_of_getElem? (i := 81) (by decide +kernel), List.mem_of_getElem? (i := 339) (by decide +kernel), List.mem_of_getElem? (i := 340) (by decide +kernel)⟩
theorem lw_p14 : lw_okq (⟨"TimeWishes$Forms", "order", "(II)I"⟩, 13) := ⟨⟨by decide +kernel, by decide +kernel⟩, List.mem_of_getElem? (i := 19) (by decide +kernel), List.mem_of_getElem? (i := 343) (by decide +kernel), List.mem_of_getElem? (i := 344) (by decide +kernel)⟩
theorem lw_p15 : lw_okq (⟨"TimeWishes$Changes", "neutral", "()I"⟩, 7) := ⟨⟨by decide +kernel, by decide +kernel⟩, List.mem_of_getElem? (i := 81) (by decide +kernel), List.mem_of_getElem? (i := 349) (by decide +kernel), List.mem_of_getElem? (i := 350) (by decide +kernel)⟩
def lw_privs_1 : List (MethodName × Nat) := [(⟨"TimeWishes$State", "copyFrom", "(LTimeWishes$State;)V"⟩, 5), (⟨"TimeWishes$Wish", "copyFrom", "(LTimeWishes$Wish;)V"⟩, 8), (⟨"TimeWishes", "rewriteParts", "(LTimeWishes$Wish;LTimeWishes$Wish;I)Z"⟩, 12), (⟨"TimeWishes", "loadAlone", "(LTimeWishes$Wish;I)I"⟩, 12), (⟨"TimeWishes$Forms", "release", "(I)V"⟩, 13), (⟨"TimeWishes$Scribe", "load", "(LTimeWishes$Wish;I)I"⟩, 7), (⟨"TimeWishes$Forms", "make", "(I[III)I"⟩, 13), (⟨"TimeWishes$Forms", "isMadeOf", "(II[III)Z"⟩, 13), (⟨"TimeWishes$Forms", "describe", "(I)V"⟩, 13), (⟨"TimeWishes$Changes", "behind", "(II)I"⟩, 7), (⟨"TimeWishes$Forms", "kid", "(II)I"⟩, 13), (⟨"TimeWishes$Changes", "two", "(III)I"⟩, 7), (⟨"TimeWishes$Changes", "begin", "(I)V"⟩, 7), (⟨"TimeWishes$Changes", "put", "(I)V"⟩, 7), (⟨"TimeWishes$Forms", "order", "(II)I"⟩, 13), (⟨"TimeWishes$Changes", "neutral", "()I"⟩, 7)]
theorem lw_r1 : ∀ q ∈ lw_privs_1, lw_okq q := List.forall_mem_cons.mpr ⟨lw_p0, List.forall_mem_cons.mpr ⟨lw_p1, List.forall_mem_cons.mpr ⟨lw_p2, List.forall_mem_cons.mpr ⟨lw_p3, List.forall_mem_cons.mpr ⟨lw_p4, List.forall_mem_cons.mpr ⟨lw_p5, List.forall_mem_cons.mpr ⟨lw_p6, List.forall_mem_cons.mpr ⟨lw_p7, List.forall_mem_cons.mpr ⟨lw_p8, List.forall_mem_cons.mpr ⟨lw_p9, List.forall_mem_cons.mpr ⟨lw_p10, List.forall_mem_cons.mpr ⟨lw_p11, List.forall_mem_cons.mpr ⟨lw_p12, List.forall_mem_cons.mpr ⟨lw_p13, List.forall_mem_cons.mpr ⟨lw_p14, List.forall_mem_cons.mpr ⟨lw_p15, fun _ h => absurd h List.not_mem_nil⟩⟩⟩⟩⟩⟩⟩⟩⟩⟩⟩⟩⟩⟩⟩⟩
theorem lw_p16 : lw_okq (⟨"TimeWishes$Changes", "done", "()I"⟩, 7) := ⟨⟨by decide +kernel, by decide +kernel⟩, List.mem_of_getElem? (i := 81) (by decide +kernel), List.mem_of_getElem? (i := 354) (by decide +kernel), List.mem_of_getElem? (i := 355) (by decide +kernel)⟩
theorem lw_p17 : lw_okq (⟨"TimeWishes$Changes", "joinKids", "(II)I"⟩, 7) := ⟨⟨by decide +kernel, by decide +kernel⟩, List.mem_of_getElem? (i := 81) (by decide +kernel), List.mem_of_getElem? (i := 359) (by decide +kernel), List.mem_of_getElem? (i := 360) (by decide +kernel)⟩
theorem lw_p18 : lw_okq (⟨"TimeWishes$Scribe", "save", "(ILTimeWishes$Wish;I)V"⟩, 7) := ⟨⟨by decide +kernel, by decide +kernel⟩, List.mem_of_getElem? (i := 109) (by decide +kernel), List.mem_of_getElem? (i := 363) (by decide +kernel), List.mem_of_getElem? (i := 364) (by decide +kernel)⟩
theorem lw_p19 : lw_okq (⟨"TimeWishes$Wish", "judge", "(I)Z"⟩, 8) := ⟨⟨by decide +kernel, by decide +kernel⟩, List.mem_of_getElem? (i := 178) (by decide +kernel), List.mem_of_getElem? (i := 368) (by decide +kernel), List.mem_of_getElem? (i := 369) (by decide +kernel)⟩
theorem lw_p20 : lw_okq (⟨"TimeWishes$Wish", "verdictOfParts", "()I"⟩, 8) := ⟨⟨by decide +kernel, by decide +kernel⟩, List.mem_of_getElem? (i := 178) (by decide +kernel), List.mem_of_getElem? (i := 372) (by decide +kernel), List.mem_of_getElem? (i := 373) (by decide +kernel)⟩
theorem lw_p21 : lw_okq (⟨"TimeWishes$Wish", "partsThatAre", "(I)I"⟩, 8) := ⟨⟨by decide +kernel, by decide +kernel⟩, List.mem_of_getElem? (i := 178) (by decide +kernel), List.mem_of_getElem? (i := 376) (by decide +kernel), List.mem_of_getElem? (i := 377) (by decide +kernel)⟩
theorem lw_p22 : lw_okq (⟨"TimeWishes", "signsToBlame", "(LTimeWishes$Wish;I)I"⟩, 12) := ⟨⟨by decide +kernel, by decide +kernel⟩, List.mem_of_getElem? (i := 11) (by decide +kernel), List.mem_of_getElem? (i := 380) (by decide +kernel), List.mem_of_getElem? (i := 381) (by decide +kernel)⟩
theorem lw_p23 : lw_okq (⟨"TimeWishes", "verdictBehind", "(LTimeWishes$Wish;I)I"⟩, 12) := ⟨⟨by decide +kernel, by decide +kernel⟩, List.mem_of_getElem? (i := 11) (by decide +kernel), List.mem_of_getElem? (i := 384) (by decide +kernel), List.mem_of_getElem? (i := 385) (by decide +kernel)⟩
theorem lw_p24 : lw_okq (⟨"TimeWishes", "recordAndGoOn", "()V"⟩, 12) := ⟨⟨by decide +kernel, by decide +kernel⟩, List.mem_of_getElem? (i := 11) (by decide +kernel), List.mem_of_getElem? (i := 394) (by decide +kernel), List.mem_of_getElem? (i := 395) (by decide +kernel)⟩
theorem lw_p25 : lw_okq (⟨"TimeWishes", "endParts", "(LTimeWishes$Wish;)V"⟩, 12) := ⟨⟨by decide +kernel, by decide +kernel⟩, List.mem_of_getElem? (i := 11) (by decide +kernel), List.mem_of_getElem? (i := 402) (by decide +kernel), List.mem_of_getElem? (i := 403) (by decide +kernel)⟩
theorem lw_p26 : lw_okq (⟨"TimeWishes$Reader", "findFault", "()I"⟩, 8) := ⟨⟨by decide +kernel, by decide +kernel⟩, List.mem_of_getElem? (i := 138) (by decide +kernel), List.mem_of_getElem? (i := 411) (by decide +kernel), List.mem_of_getElem? (i := 412) (by decide +kernel)⟩
theorem lw_p27 : lw_okq (⟨"TimeWishes$Reader", "read", "()I"⟩, 8) := ⟨⟨by decide +kernel, by decide +kernel⟩, List.mem_of_getElem? (i := 138) (by decide +kernel), List.mem_of_getElem? (i := 427) (by decide +kernel), List.mem_of_getElem? (i := 428) (by decide +kernel)⟩
theorem lw_p28 : lw_okq (⟨"TimeWishes$Reader", "hold", "(I)V"⟩, 8) := ⟨⟨by decide +kernel, by decide +kernel⟩, List.mem_of_getElem? (i := 138) (by decide +kernel), List.mem_of_getElem? (i := 434) (by decide +kernel), List.mem_of_getElem? (i := 435) (by decide +kernel)⟩
theorem lw_p29 : lw_okq (⟨"TimeWishes$Reader", "applyInFront", "()V"⟩, 8) := ⟨⟨by decide +kernel, by decide +kernel⟩, List.mem_of_getElem? (i := 138) (by decide +kernel), List.mem_of_getElem? (i := 438) (by decide +kernel), List.mem_of_getElem? (i := 439) (by decide +kernel)⟩
theorem lw_p30 : lw_okq (⟨"TimeWishes$Changes", "opposite", "(I)I"⟩, 7) := ⟨⟨by decide +kernel, by decide +kernel⟩, List.mem_of_getElem? (i := 81) (by decide +kernel), List.mem_of_getElem? (i := 442) (by decide +kernel), List.mem_of_getElem? (i := 443) (by decide +kernel)⟩
theorem lw_p31 : lw_okq (⟨"TimeWishes$Changes", "make", "(III)I"⟩, 7) := ⟨⟨by decide +kernel, by decide +kernel⟩, List.mem_of_getElem? (i := 81) (by decide +kernel), List.mem_of_getElem? (i := 446) (by decide +kernel), List.mem_of_getElem? (i := 447) (by decide +kernel)⟩
def lw_privs_2 : List (MethodName × Nat) := [(⟨"TimeWishes$Changes", "done", "()I"⟩, 7), (⟨"TimeWishes$Changes", "joinKids", "(II)I"⟩, 7), (⟨"TimeWishes$Scribe", "save", "(ILTimeWishes$Wish;I)V"⟩, 7), (⟨"TimeWishes$Wish", "judge", "(I)Z"⟩, 8), (⟨"TimeWishes$Wish", "verdictOfParts", "()I"⟩, 8), (⟨"TimeWishes$Wish", "partsThatAre", "(I)I"⟩, 8), (⟨"TimeWishes", "signsToBlame", "(LTimeWishes$Wish;I)I"⟩, 12), (⟨"TimeWishes", "verdictBehind", "(LTimeWishes$Wish;I)I"⟩, 12), (⟨"TimeWishes", "recordAndGoOn", "()V"⟩, 12), (⟨"TimeWishes", "endParts", "(LTimeWishes$Wish;)V"⟩, 12), (⟨"TimeWishes$Reader", "findFault", "()I"⟩, 8), (⟨"TimeWishes$Reader", "read", "()I"⟩, 8), (⟨"TimeWishes$Reader", "hold", "(I)V"⟩, 8), (⟨"TimeWishes$Reader", "applyInFront", "()V"⟩, 8), (⟨"TimeWishes$Changes", "opposite", "(I)I"⟩, 7), (⟨"TimeWishes$Changes", "make", "(III)I"⟩, 7)]
theorem lw_r2 : ∀ q ∈ lw_privs_2, lw_okq q := List.forall_mem_cons.mpr ⟨lw_p16, List.forall_mem_cons.mpr ⟨lw_p17, List.forall_mem_cons.mpr ⟨lw_p18, List.forall_mem_cons.mpr ⟨lw_p19, List.forall_mem_cons.mpr ⟨lw_p20, List.forall_mem_cons.mpr ⟨lw_p21, List.forall_mem_cons.mpr ⟨lw_p22, List.forall_mem_cons.mpr ⟨lw_p23, List.forall_mem_cons.mpr ⟨lw_p24, List.forall_mem_cons.mpr ⟨lw_p25, List.forall_mem_cons.mpr ⟨lw_p26, List.forall_mem_cons.mpr ⟨lw_p27, List.forall_mem_cons.mpr ⟨lw_p28, List.forall_mem_cons.mpr ⟨lw_p29, List.forall_mem_cons.mpr ⟨lw_p30, List.forall_mem_cons.mpr ⟨lw_p31, fun _ h => absurd h List.not_mem_nil⟩⟩⟩⟩⟩⟩⟩⟩⟩⟩⟩⟩⟩⟩⟩⟩
theorem lw_p32 : lw_okq (⟨"TimeWishes$Reader", "combineDownTo", "(I)V"⟩, 8) := ⟨⟨by decide +kernel, by decide +kernel⟩, List.mem_of_getElem? (i := 138) (by decide +kernel), List.mem_of_getElem? (i := 451) (by decide +kernel), List.mem_of_getElem? (i := 452) (by decide +kernel)⟩
theorem lw_p33 : lw_okq (⟨"TimeWishes$Reader", "await", "(C)V"⟩, 8) := ⟨⟨by decide +kernel, by decide +kernel⟩, List.mem_of_getElem? (i := 138) (by decide +kernel), List.mem_of_getElem? (i := 459) (by decide +kernel), List.mem_of_getElem? (i := 460) (by decide +kernel)⟩
theorem lw_p34 : lw_okq (⟨"TimeWishes", "bring", "(I)I"⟩, 12) := ⟨⟨by decide +kernel, by decide +kernel⟩, List.mem_of_getElem? (i := 11) (by decide +kernel), List.mem_of_getElem? (i := 463) (by decide +kernel), List.mem_of_getElem? (i := 464) (by decide +kernel)⟩
theorem lw_p35 : lw_okq (⟨"TimeWishes$Wish", "come", "(II)V"⟩, 8) := ⟨⟨by decide +kernel, by decide +kernel⟩, List.mem_of_getElem? (i := 178) (by decide +kernel), List.mem_of_getElem? (i := 468) (by decide +kernel), List.mem_of_getElem? (i := 469) (by decide +kernel)⟩
theorem lw_p36 : lw_okq (⟨"TimeWishes$State", "find", "(I)LTimeWishes$Wish;"⟩, 5) := ⟨⟨by decide +kernel, by decide +kernel⟩, List.mem_of_getElem? (i := 171) (by decide +kernel), List.mem_of_getElem? (i := 476) (by decide +kernel), List.mem_of_getElem? (i := 477) (by decide +kernel)⟩
theorem lw_p37 : lw_okq (⟨"TimeWishes", "allOfParts", "(LTimeWishes$Wish;)I"⟩, 12) := ⟨⟨by decide +kernel, by decide +kernel⟩, List.mem_of_getElem? (i := 11) (by decide +kernel), List.mem_of_getElem? (i := 480) (by decide +kernel), List.mem_of_getElem? (i := 481) (by decide +kernel)⟩
theorem lw_p38 : lw_okq (⟨"TimeWishes$State", "howManyThere", "()I"⟩, 5) := ⟨⟨by decide +kernel, by decide +kernel⟩, List.mem_of_getElem? (i := 171) (by decide +kernel), List.mem_of_getElem? (i := 492) (by decide +kernel), List.mem_of_getElem? (i := 493) (by decide +kernel)⟩
theorem lw_p39 : lw_okq (⟨"TimeWishes$State", "howMany", "(I)I"⟩, 5) := ⟨⟨by decide +kernel, by decide +kernel⟩, List.mem_of_getElem? (i := 171) (by decide +kernel), List.mem_of_getElem? (i := 496) (by decide +kernel), List.mem_of_getElem? (i := 497) (by decide +kernel)⟩
theorem lw_p40 : lw_okq (⟨"TimeWishes$Reader", "append", "(C)Z"⟩, 8) := ⟨⟨by decide +kernel, by decide +kernel⟩, List.mem_of_getElem? (i := 138) (by decide +kernel), List.mem_of_getElem? (i := 504) (by decide +kernel), List.mem_of_getElem? (i := 505) (by decide +kernel)⟩
theorem lw_p41 : lw_okq (⟨"TimeWishes", "verdictIfEnded", "(LTimeWishes$Wish;)I"⟩, 12) := ⟨⟨by decide +kernel, by decide +kernel⟩, List.mem_of_getElem? (i := 11) (by decide +kernel), List.mem_of_getElem? (i := 529) (by decide +kernel), List.mem_of_getElem? (i := 530) (by decide +kernel)⟩
theorem lw_p42 : lw_okq (⟨"TimeWishes$Wish", "sizeOfParts", "()I"⟩, 8) := ⟨⟨by decide +kernel, by decide +kernel⟩, List.mem_of_getElem? (i := 178) (by decide +kernel), List.mem_of_getElem? (i := 533) (by decide +kernel), List.mem_of_getElem? (i := 534) (by decide +kernel)⟩
theorem lw_p43 : lw_okq (⟨"TimeWishes$Scribe", "spell", "(LTimeWishes$Wish;I)I"⟩, 7) := ⟨⟨by decide +kernel, by decide +kernel⟩, List.mem_of_getElem? (i := 109) (by decide +kernel), List.mem_of_getElem? (i := 541) (by decide +kernel), List.mem_of_getElem? (i := 542) (by decide +kernel)⟩
theorem lw_p44 : lw_okq (⟨"TimeWishes$Scribe", "spellLeaf", "(I)V"⟩, 7) := ⟨⟨by decide +kernel, by decide +kernel⟩, List.mem_of_getElem? (i := 109) (by decide +kernel), List.mem_of_getElem? (i := 545) (by decide +kernel), List.mem_of_getElem? (i := 546) (by decide +kernel)⟩
theorem lw_p45 : lw_okq (⟨"TimeWishes$Scribe", "write", "(C)V"⟩, 7) := ⟨⟨by decide +kernel, by decide +kernel⟩, List.mem_of_getElem? (i := 109) (by decide +kernel), List.mem_of_getElem? (i := 549) (by decide +kernel), List.mem_of_getElem? (i := 550) (by decide +kernel)⟩
theorem lw_p46 : lw_okq (⟨"TimeWishes$Scribe", "spellBehindForm", "()V"⟩, 7) := ⟨⟨by decide +kernel, by decide +kernel⟩, List.mem_of_getElem? (i := 109) (by decide +kernel), List.mem_of_getElem? (i := 554) (by decide +kernel), List.mem_of_getElem? (i := 555) (by decide +kernel)⟩
theorem lw_p47 : lw_okq (⟨"TimeWishes", "findOutcomes", "(LTimeWishes$Wish;)V"⟩, 12) := ⟨⟨by decide +kernel, by decide +kernel⟩, List.mem_of_getElem? (i := 11) (by decide +kernel), List.mem_of_getElem? (i := 571) (by decide +kernel), List.mem_of_getElem? (i := 572) (by decide +kernel)⟩
def lw_privs_3 : List (MethodName × Nat) := [(⟨"TimeWishes$Reader", "combineDownTo", "(I)V"⟩, 8), (⟨"TimeWishes$Reader", "await", "(C)V"⟩, 8), (⟨"TimeWishes", "bring", "(I)I"⟩, 12), (⟨"TimeWishes$Wish", "come", "(II)V"⟩, 8), (⟨"TimeWishes$State", "find", "(I)LTimeWishes$Wish;"⟩, 5), (⟨"TimeWishes", "allOfParts", "(LTimeWishes$Wish;)I"⟩, 12), (⟨"TimeWishes$State", "howManyThere", "()I"⟩, 5), (⟨"TimeWishes$State", "howMany", "(I)I"⟩, 5), (⟨"TimeWishes$Reader", "append", "(C)Z"⟩, 8), (⟨"TimeWishes", "verdictIfEnded", "(LTimeWishes$Wish;)I"⟩, 12), (⟨"TimeWishes$Wish", "sizeOfParts", "()I"⟩, 8), (⟨"TimeWishes$Scribe", "spell", "(LTimeWishes$Wish;I)I"⟩, 7), (⟨"TimeWishes$Scribe", "spellLeaf", "(I)V"⟩, 7), (⟨"TimeWishes$Scribe", "write", "(C)V"⟩, 7), (⟨"TimeWishes$Scribe", "spellBehindForm", "()V"⟩, 7), (⟨"TimeWishes", "findOutcomes", "(LTimeWishes$Wish;)V"⟩, 12)]
theorem lw_r3 : ∀ q ∈ lw_privs_3, lw_okq q := List.forall_mem_cons.mpr ⟨lw_p32, List.forall_mem_cons.mpr ⟨lw_p33, List.forall_mem_cons.mpr ⟨lw_p34, List.forall_mem_cons.mpr ⟨lw_p35, List.forall_mem_cons.mpr ⟨lw_p36, List.forall_mem_cons.mpr ⟨lw_p37, List.forall_mem_cons.mpr ⟨lw_p38, List.forall_mem_cons.mpr ⟨lw_p39, List.forall_mem_cons.mpr ⟨lw_p40, List.forall_mem_cons.mpr ⟨lw_p41, List.forall_mem_cons.mpr ⟨lw_p42, List.forall_mem_cons.mpr ⟨lw_p43, List.forall_mem_cons.mpr ⟨lw_p44, List.forall_mem_cons.mpr ⟨lw_p45, List.forall_mem_cons.mpr ⟨lw_p46, List.forall_mem_cons.mpr ⟨lw_p47, fun _ h => absurd h List.not_mem_nil⟩⟩⟩⟩⟩⟩⟩⟩⟩⟩⟩⟩⟩⟩⟩⟩
theorem lw_p48 : lw_okq (⟨"TimeWishes", "addOutcomesOfPart", "(LTimeWishes$Wish;I)V"⟩, 12) := ⟨⟨by decide +kernel, by decide +kernel⟩, List.mem_of_getElem? (i := 11) (by decide +kernel), List.mem_of_getElem? (i := 575) (by decide +kernel), List.mem_of_getElem? (i := 576) (by decide +kernel)⟩
theorem lw_p49 : lw_okq (⟨"TimeWishes$State", "isOpen", "(I)Z"⟩, 5) := ⟨⟨by decide +kernel, by decide +kernel⟩, List.mem_of_getElem? (i := 171) (by decide +kernel), List.mem_of_getElem? (i := 583) (by decide +kernel), List.mem_of_getElem? (i := 584) (by decide +kernel)⟩
theorem lw_p50 : lw_okq (⟨"TimeWishes$State", "rankOfOpen", "(I)I"⟩, 5) := ⟨⟨by decide +kernel, by decide +kernel⟩, List.mem_of_getElem? (i := 171) (by decide +kernel), List.mem_of_getElem? (i := 587) (by decide +kernel), List.mem_of_getElem? (i := 588) (by decide +kernel)⟩
theorem lw_p51 : lw_okq (⟨"TimeWishesModel", "empty", "()V"⟩, 26) := ⟨⟨by decide +kernel, by decide +kernel⟩, List.mem_of_getElem? (i := 602) (by decide +kernel), List.mem_of_getElem? (i := 610) (by decide +kernel), List.mem_of_getElem? (i := 611) (by decide +kernel)⟩
theorem lw_p52 : lw_okq (⟨"TimeWishesModel", "isTooGreat", "(I)Z"⟩, 26) := ⟨⟨by decide +kernel, by decide +kernel⟩, List.mem_of_getElem? (i := 602) (by decide +kernel), List.mem_of_getElem? (i := 700) (by decide +kernel), List.mem_of_getElem? (i := 701) (by decide +kernel)⟩
theorem lw_p53 : lw_okq (⟨"TimeWishesModel", "isThere", "(I)Z"⟩, 26) := ⟨⟨by decide +kernel, by decide +kernel⟩, List.mem_of_getElem? (i := 602) (by decide +kernel), List.mem_of_getElem? (i := 707) (by decide +kernel), List.mem_of_getElem? (i := 708) (by decide +kernel)⟩
theorem lw_p54 : lw_okq (⟨"TimeWishesModel", "loadAlone", "(II)I"⟩, 26) := ⟨⟨by decide +kernel, by decide +kernel⟩, List.mem_of_getElem? (i := 602) (by decide +kernel), List.mem_of_getElem? (i := 711) (by decide +kernel), List.mem_of_getElem? (i := 712) (by decide +kernel)⟩
theorem lw_p55 : lw_okq (⟨"TimeWishesModel", "load", "(II)I"⟩, 26) := ⟨⟨by decide +kernel, by decide +kernel⟩, List.mem_of_getElem? (i := 602) (by decide +kernel), List.mem_of_getElem? (i := 715) (by decide +kernel), List.mem_of_getElem? (i := 716) (by decide +kernel)⟩
theorem lw_p56 : lw_okq (⟨"TimeWishesModel", "makeList", "(I)I"⟩, 26) := ⟨⟨by decide +kernel, by decide +kernel⟩, List.mem_of_getElem? (i := 602) (by decide +kernel), List.mem_of_getElem? (i := 722) (by decide +kernel), List.mem_of_getElem? (i := 723) (by decide +kernel)⟩
theorem lw_p57 : lw_okq (⟨"TimeWishesModel", "isList", "(II)Z"⟩, 26) := ⟨⟨by decide +kernel, by decide +kernel⟩, List.mem_of_getElem? (i := 602) (by decide +kernel), List.mem_of_getElem? (i := 726) (by decide +kernel), List.mem_of_getElem? (i := 727) (by decide +kernel)⟩
theorem lw_p58 : lw_okq (⟨"TimeWishesModel", "make", "(III)I"⟩, 26) := ⟨⟨by decide +kernel, by decide +kernel⟩, List.mem_of_getElem? (i := 602) (by decide +kernel), List.mem_of_getElem? (i := 730) (by decide +kernel), List.mem_of_getElem? (i := 731) (by decide +kernel)⟩
theorem lw_p59 : lw_okq (⟨"TimeWishesModel", "rewritten", "(II)I"⟩, 26) := ⟨⟨by decide +kernel, by decide +kernel⟩, List.mem_of_getElem? (i := 602) (by decide +kernel), List.mem_of_getElem? (i := 734) (by decide +kernel), List.mem_of_getElem? (i := 735) (by decide +kernel)⟩
theorem lw_p60 : lw_okq (⟨"TimeWishesModel", "mark", "(I)V"⟩, 26) := ⟨⟨by decide +kernel, by decide +kernel⟩, List.mem_of_getElem? (i := 602) (by decide +kernel), List.mem_of_getElem? (i := 738) (by decide +kernel), List.mem_of_getElem? (i := 739) (by decide +kernel)⟩
theorem lw_p61 : lw_okq (⟨"TimeWishesModel", "childMany", "(I)I"⟩, 26) := ⟨⟨by decide +kernel, by decide +kernel⟩, List.mem_of_getElem? (i := 602) (by decide +kernel), List.mem_of_getElem? (i := 742) (by decide +kernel), List.mem_of_getElem? (i := 743) (by decide +kernel)⟩
theorem lw_p62 : lw_okq (⟨"TimeWishesModel", "child", "(II)I"⟩, 26) := ⟨⟨by decide +kernel, by decide +kernel⟩, List.mem_of_getElem? (i := 602) (by decide +kernel), List.mem_of_getElem? (i := 746) (by decide +kernel), List.mem_of_getElem? (i := 747) (by decide +kernel)⟩
theorem lw_p63 : lw_okq (⟨"TimeWishesModel", "step", "(I)I"⟩, 26) := ⟨⟨by decide +kernel, by decide +kernel⟩, List.mem_of_getElem? (i := 602) (by decide +kernel), List.mem_of_getElem? (i := 750) (by decide +kernel), List.mem_of_getElem? (i := 751) (by decide +kernel)⟩
def lw_privs_4 : List (MethodName × Nat) := [(⟨"TimeWishes", "addOutcomesOfPart", "(LTimeWishes$Wish;I)V"⟩, 12), (⟨"TimeWishes$State", "isOpen", "(I)Z"⟩, 5), (⟨"TimeWishes$State", "rankOfOpen", "(I)I"⟩, 5), (⟨"TimeWishesModel", "empty", "()V"⟩, 26), (⟨"TimeWishesModel", "isTooGreat", "(I)Z"⟩, 26), (⟨"TimeWishesModel", "isThere", "(I)Z"⟩, 26), (⟨"TimeWishesModel", "loadAlone", "(II)I"⟩, 26), (⟨"TimeWishesModel", "load", "(II)I"⟩, 26), (⟨"TimeWishesModel", "makeList", "(I)I"⟩, 26), (⟨"TimeWishesModel", "isList", "(II)Z"⟩, 26), (⟨"TimeWishesModel", "make", "(III)I"⟩, 26), (⟨"TimeWishesModel", "rewritten", "(II)I"⟩, 26), (⟨"TimeWishesModel", "mark", "(I)V"⟩, 26), (⟨"TimeWishesModel", "childMany", "(I)I"⟩, 26), (⟨"TimeWishesModel", "child", "(II)I"⟩, 26), (⟨"TimeWishesModel", "step", "(I)I"⟩, 26)]
theorem lw_r4 : ∀ q ∈ lw_privs_4, lw_okq q := List.forall_mem_cons.mpr ⟨lw_p48, List.forall_mem_cons.mpr ⟨lw_p49, List.forall_mem_cons.mpr ⟨lw_p50, List.forall_mem_cons.mpr ⟨lw_p51, List.forall_mem_cons.mpr ⟨lw_p52, List.forall_mem_cons.mpr ⟨lw_p53, List.forall_mem_cons.mpr ⟨lw_p54, List.forall_mem_cons.mpr ⟨lw_p55, List.forall_mem_cons.mpr ⟨lw_p56, List.forall_mem_cons.mpr ⟨lw_p57, List.forall_mem_cons.mpr ⟨lw_p58, List.forall_mem_cons.mpr ⟨lw_p59, List.forall_mem_cons.mpr ⟨lw_p60, List.forall_mem_cons.mpr ⟨lw_p61, List.forall_mem_cons.mpr ⟨lw_p62, List.forall_mem_cons.mpr ⟨lw_p63, fun _ h => absurd h List.not_mem_nil⟩⟩⟩⟩⟩⟩⟩⟩⟩⟩⟩⟩⟩⟩⟩⟩
theorem lw_p64 : lw_okq (⟨"TimeWishesModel", "both", "(III)I"⟩, 26) := ⟨⟨by decide +kernel, by decide +kernel⟩, List.mem_of_getElem? (i := 602) (by decide +kernel), List.mem_of_getElem? (i := 754) (by decide +kernel), List.mem_of_getElem? (i := 755) (by decide +kernel)⟩
theorem lw_p65 : lw_okq (⟨"TimeWishesModel", "beginPut", "()V"⟩, 26) := ⟨⟨by decide +kernel, by decide +kernel⟩, List.mem_of_getElem? (i := 602) (by decide +kernel), List.mem_of_getElem? (i := 758) (by decide +kernel), List.mem_of_getElem? (i := 759) (by decide +kernel)⟩
theorem lw_p66 : lw_okq (⟨"TimeWishesModel", "putIn", "(II)V"⟩, 26) := ⟨⟨by decide +kernel, by decide +kernel⟩, List.mem_of_getElem? (i := 602) (by decide +kernel), List.mem_of_getElem? (i := 762) (by decide +kernel), List.mem_of_getElem? (i := 763) (by decide +kernel)⟩
theorem lw_p67 : lw_okq (⟨"TimeWishesModel", "putOne", "(II)V"⟩, 26) := ⟨⟨by decide +kernel, by decide +kernel⟩, List.mem_of_getElem? (i := 602) (by decide +kernel), List.mem_of_getElem? (i := 766) (by decide +kernel), List.mem_of_getElem? (i := 767) (by decide +kernel)⟩
theorem lw_p68 : lw_okq (⟨"TimeWishesModel", "isAhead", "(II)Z"⟩, 26) := ⟨⟨by decide +kernel, by decide +kernel⟩, List.mem_of_getElem? (i := 602) (by decide +kernel), List.mem_of_getElem? (i := 773) (by decide +kernel), List.mem_of_getElem? (i := 774) (by decide +kernel)⟩
theorem lw_p69 : lw_okq (⟨"TimeWishesModel", "begins", "(I)I"⟩, 26) := ⟨⟨by decide +kernel, by decide +kernel⟩, List.mem_of_getElem? (i := 602) (by decide +kernel), List.mem_of_getElem? (i := 777) (by decide +kernel), List.mem_of_getElem? (i := 778) (by decide +kernel)⟩
theorem lw_p70 : lw_okq (⟨"TimeWishesModel", "behind", "(II)I"⟩, 26) := ⟨⟨by decide +kernel, by decide +kernel⟩, List.mem_of_getElem? (i := 602) (by decide +kernel), List.mem_of_getElem? (i := 781) (by decide +kernel), List.mem_of_getElem? (i := 782) (by decide +kernel)⟩
theorem lw_p71 : lw_okq (⟨"TimeWishesModel", "endPut", "(I)I"⟩, 26) := ⟨⟨by decide +kernel, by decide +kernel⟩, List.mem_of_getElem? (i := 602) (by decide +kernel), List.mem_of_getElem? (i := 785) (by decide +kernel), List.mem_of_getElem? (i := 786) (by decide +kernel)⟩
theorem lw_p72 : lw_okq (⟨"TimeWishesModel", "putAll", "(II)I"⟩, 26) := ⟨⟨by decide +kernel, by decide +kernel⟩, List.mem_of_getElem? (i := 602) (by decide +kernel), List.mem_of_getElem? (i := 789) (by decide +kernel), List.mem_of_getElem? (i := 790) (by decide +kernel)⟩
theorem lw_p73 : lw_okq (⟨"TimeWishesModel", "record", "()V"⟩, 26) := ⟨⟨by decide +kernel, by decide +kernel⟩, List.mem_of_getElem? (i := 602) (by decide +kernel), List.mem_of_getElem? (i := 793) (by decide +kernel), List.mem_of_getElem? (i := 794) (by decide +kernel)⟩
theorem lw_p74 : lw_okq (⟨"TimeWishesModel", "happens", "(II)I"⟩, 26) := ⟨⟨by decide +kernel, by decide +kernel⟩, List.mem_of_getElem? (i := 602) (by decide +kernel), List.mem_of_getElem? (i := 798) (by decide +kernel), List.mem_of_getElem? (i := 799) (by decide +kernel)⟩
theorem lw_p75 : lw_okq (⟨"TimeWishesModel", "verdict", "(I)I"⟩, 26) := ⟨⟨by decide +kernel, by decide +kernel⟩, List.mem_of_getElem? (i := 602) (by decide +kernel), List.mem_of_getElem? (i := 802) (by decide +kernel), List.mem_of_getElem? (i := 803) (by decide +kernel)⟩
theorem lw_p76 : lw_okq (⟨"TimeWishesModel", "blame", "(II)I"⟩, 26) := ⟨⟨by decide +kernel, by decide +kernel⟩, List.mem_of_getElem? (i := 602) (by decide +kernel), List.mem_of_getElem? (i := 806) (by decide +kernel), List.mem_of_getElem? (i := 807) (by decide +kernel)⟩
theorem lw_p77 : lw_okq (⟨"TimeWishesModel", "wouldBe", "(II)I"⟩, 26) := ⟨⟨by decide +kernel, by decide +kernel⟩, List.mem_of_getElem? (i := 602) (by decide +kernel), List.mem_of_getElem? (i := 810) (by decide +kernel), List.mem_of_getElem? (i := 811) (by decide +kernel)⟩
theorem lw_p78 : lw_okq (⟨"TimeWishesModel", "store", "(III)V"⟩, 26) := ⟨⟨by decide +kernel, by decide +kernel⟩, List.mem_of_getElem? (i := 602) (by decide +kernel), List.mem_of_getElem? (i := 814) (by decide +kernel), List.mem_of_getElem? (i := 815) (by decide +kernel)⟩
theorem lw_p79 : lw_okq (⟨"TimeWishesModel", "verdictBy", "(I)I"⟩, 26) := ⟨⟨by decide +kernel, by decide +kernel⟩, List.mem_of_getElem? (i := 602) (by decide +kernel), List.mem_of_getElem? (i := 818) (by decide +kernel), List.mem_of_getElem? (i := 819) (by decide +kernel)⟩
def lw_privs_5 : List (MethodName × Nat) := [(⟨"TimeWishesModel", "both", "(III)I"⟩, 26), (⟨"TimeWishesModel", "beginPut", "()V"⟩, 26), (⟨"TimeWishesModel", "putIn", "(II)V"⟩, 26), (⟨"TimeWishesModel", "putOne", "(II)V"⟩, 26), (⟨"TimeWishesModel", "isAhead", "(II)Z"⟩, 26), (⟨"TimeWishesModel", "begins", "(I)I"⟩, 26), (⟨"TimeWishesModel", "behind", "(II)I"⟩, 26), (⟨"TimeWishesModel", "endPut", "(I)I"⟩, 26), (⟨"TimeWishesModel", "putAll", "(II)I"⟩, 26), (⟨"TimeWishesModel", "record", "()V"⟩, 26), (⟨"TimeWishesModel", "happens", "(II)I"⟩, 26), (⟨"TimeWishesModel", "verdict", "(I)I"⟩, 26), (⟨"TimeWishesModel", "blame", "(II)I"⟩, 26), (⟨"TimeWishesModel", "wouldBe", "(II)I"⟩, 26), (⟨"TimeWishesModel", "store", "(III)V"⟩, 26), (⟨"TimeWishesModel", "verdictBy", "(I)I"⟩, 26)]
theorem lw_r5 : ∀ q ∈ lw_privs_5, lw_okq q := List.forall_mem_cons.mpr ⟨lw_p64, List.forall_mem_cons.mpr ⟨lw_p65, List.forall_mem_cons.mpr ⟨lw_p66, List.forall_mem_cons.mpr ⟨lw_p67, List.forall_mem_cons.mpr ⟨lw_p68, List.forall_mem_cons.mpr ⟨lw_p69, List.forall_mem_cons.mpr ⟨lw_p70, List.forall_mem_cons.mpr ⟨lw_p71, List.forall_mem_cons.mpr ⟨lw_p72, List.forall_mem_cons.mpr ⟨lw_p73, List.forall_mem_cons.mpr ⟨lw_p74, List.forall_mem_cons.mpr ⟨lw_p75, List.forall_mem_cons.mpr ⟨lw_p76, List.forall_mem_cons.mpr ⟨lw_p77, List.forall_mem_cons.mpr ⟨lw_p78, List.forall_mem_cons.mpr ⟨lw_p79, fun _ h => absurd h List.not_mem_nil⟩⟩⟩⟩⟩⟩⟩⟩⟩⟩⟩⟩⟩⟩⟩⟩
theorem lw_p80 : lw_okq (⟨"TimeWishesModel", "partsThat", "(II)I"⟩, 26) := ⟨⟨by decide +kernel, by decide +kernel⟩, List.mem_of_getElem? (i := 602) (by decide +kernel), List.mem_of_getElem? (i := 822) (by decide +kernel), List.mem_of_getElem? (i := 823) (by decide +kernel)⟩
theorem lw_p81 : lw_okq (⟨"TimeWishesModel", "formOf", "(II)I"⟩, 26) := ⟨⟨by decide +kernel, by decide +kernel⟩, List.mem_of_getElem? (i := 602) (by decide +kernel), List.mem_of_getElem? (i := 826) (by decide +kernel), List.mem_of_getElem? (i := 827) (by decide +kernel)⟩
theorem lw_p82 : lw_okq (⟨"TimeWishesModel", "isTrue", "(I)Z"⟩, 26) := ⟨⟨by decide +kernel, by decide +kernel⟩, List.mem_of_getElem? (i := 602) (by decide +kernel), List.mem_of_getElem? (i := 834) (by decide +kernel), List.mem_of_getElem? (i := 835) (by decide +kernel)⟩
theorem lw_p83 : lw_okq (⟨"TimeWishesModel", "faultOf", "()I"⟩, 26) := ⟨⟨by decide +kernel, by decide +kernel⟩, List.mem_of_getElem? (i := 602) (by decide +kernel), List.mem_of_getElem? (i := 842) (by decide +kernel), List.mem_of_getElem? (i := 843) (by decide +kernel)⟩
theorem lw_p84 : lw_okq (⟨"TimeWishesModel", "read", "()I"⟩, 26) := ⟨⟨by decide +kernel, by decide +kernel⟩, List.mem_of_getElem? (i := 602) (by decide +kernel), List.mem_of_getElem? (i := 855) (by decide +kernel), List.mem_of_getElem? (i := 856) (by decide +kernel)⟩
theorem lw_p85 : lw_okq (⟨"TimeWishesModel", "readOne", "(C)V"⟩, 26) := ⟨⟨by decide +kernel, by decide +kernel⟩, List.mem_of_getElem? (i := 602) (by decide +kernel), List.mem_of_getElem? (i := 859) (by decide +kernel), List.mem_of_getElem? (i := 860) (by decide +kernel)⟩
theorem lw_p86 : lw_okq (⟨"TimeWishesModel", "applyAhead", "()V"⟩, 26) := ⟨⟨by decide +kernel, by decide +kernel⟩, List.mem_of_getElem? (i := 602) (by decide +kernel), List.mem_of_getElem? (i := 863) (by decide +kernel), List.mem_of_getElem? (i := 864) (by decide +kernel)⟩
theorem lw_p87 : lw_okq (⟨"TimeWishesModel", "apply", "()V"⟩, 26) := ⟨⟨by decide +kernel, by decide +kernel⟩, List.mem_of_getElem? (i := 602) (by decide +kernel), List.mem_of_getElem? (i := 867) (by decide +kernel), List.mem_of_getElem? (i := 868) (by decide +kernel)⟩
theorem lw_p88 : lw_okq (⟨"TimeWishesModel", "opposite", "(I)I"⟩, 26) := ⟨⟨by decide +kernel, by decide +kernel⟩, List.mem_of_getElem? (i := 602) (by decide +kernel), List.mem_of_getElem? (i := 871) (by decide +kernel), List.mem_of_getElem? (i := 872) (by decide +kernel)⟩
theorem lw_p89 : lw_okq (⟨"TimeWishesModel", "turned", "(I)I"⟩, 26) := ⟨⟨by decide +kernel, by decide +kernel⟩, List.mem_of_getElem? (i := 602) (by decide +kernel), List.mem_of_getElem? (i := 875) (by decide +kernel), List.mem_of_getElem? (i := 876) (by decide +kernel)⟩
theorem lw_p90 : lw_okq (⟨"TimeWishesModel", "partMany", "(I)I"⟩, 26) := ⟨⟨by decide +kernel, by decide +kernel⟩, List.mem_of_getElem? (i := 602) (by decide +kernel), List.mem_of_getElem? (i := 879) (by decide +kernel), List.mem_of_getElem? (i := 880) (by decide +kernel)⟩
theorem lw_p91 : lw_okq (⟨"TimeWishesModel", "comes", "(I)I"⟩, 26) := ⟨⟨by decide +kernel, by decide +kernel⟩, List.mem_of_getElem? (i := 602) (by decide +kernel), List.mem_of_getElem? (i := 883) (by decide +kernel), List.mem_of_getElem? (i := 884) (by decide +kernel)⟩
theorem lw_p92 : lw_okq (⟨"TimeWishesModel", "partForm", "(II)I"⟩, 26) := ⟨⟨by decide +kernel, by decide +kernel⟩, List.mem_of_getElem? (i := 602) (by decide +kernel), List.mem_of_getElem? (i := 887) (by decide +kernel), List.mem_of_getElem? (i := 888) (by decide +kernel)⟩
theorem lw_p93 : lw_okq (⟨"TimeWishesModel", "allOf", "(I)I"⟩, 26) := ⟨⟨by decide +kernel, by decide +kernel⟩, List.mem_of_getElem? (i := 602) (by decide +kernel), List.mem_of_getElem? (i := 895) (by decide +kernel), List.mem_of_getElem? (i := 896) (by decide +kernel)⟩
theorem lw_p94 : lw_okq (⟨"TimeWishesModel", "thereMany", "()I"⟩, 26) := ⟨⟨by decide +kernel, by decide +kernel⟩, List.mem_of_getElem? (i := 602) (by decide +kernel), List.mem_of_getElem? (i := 903) (by decide +kernel), List.mem_of_getElem? (i := 904) (by decide +kernel)⟩
theorem lw_p95 : lw_okq (⟨"TimeWishesModel", "areTrue", "(I)Z"⟩, 26) := ⟨⟨by decide +kernel, by decide +kernel⟩, List.mem_of_getElem? (i := 602) (by decide +kernel), List.mem_of_getElem? (i := 931) (by decide +kernel), List.mem_of_getElem? (i := 932) (by decide +kernel)⟩
def lw_privs_6 : List (MethodName × Nat) := [(⟨"TimeWishesModel", "partsThat", "(II)I"⟩, 26), (⟨"TimeWishesModel", "formOf", "(II)I"⟩, 26), (⟨"TimeWishesModel", "isTrue", "(I)Z"⟩, 26), (⟨"TimeWishesModel", "faultOf", "()I"⟩, 26), (⟨"TimeWishesModel", "read", "()I"⟩, 26), (⟨"TimeWishesModel", "readOne", "(C)V"⟩, 26), (⟨"TimeWishesModel", "applyAhead", "()V"⟩, 26), (⟨"TimeWishesModel", "apply", "()V"⟩, 26), (⟨"TimeWishesModel", "opposite", "(I)I"⟩, 26), (⟨"TimeWishesModel", "turned", "(I)I"⟩, 26), (⟨"TimeWishesModel", "partMany", "(I)I"⟩, 26), (⟨"TimeWishesModel", "comes", "(I)I"⟩, 26), (⟨"TimeWishesModel", "partForm", "(II)I"⟩, 26), (⟨"TimeWishesModel", "allOf", "(I)I"⟩, 26), (⟨"TimeWishesModel", "thereMany", "()I"⟩, 26), (⟨"TimeWishesModel", "areTrue", "(I)Z"⟩, 26)]
theorem lw_r6 : ∀ q ∈ lw_privs_6, lw_okq q := List.forall_mem_cons.mpr ⟨lw_p80, List.forall_mem_cons.mpr ⟨lw_p81, List.forall_mem_cons.mpr ⟨lw_p82, List.forall_mem_cons.mpr ⟨lw_p83, List.forall_mem_cons.mpr ⟨lw_p84, List.forall_mem_cons.mpr ⟨lw_p85, List.forall_mem_cons.mpr ⟨lw_p86, List.forall_mem_cons.mpr ⟨lw_p87, List.forall_mem_cons.mpr ⟨lw_p88, List.forall_mem_cons.mpr ⟨lw_p89, List.forall_mem_cons.mpr ⟨lw_p90, List.forall_mem_cons.mpr ⟨lw_p91, List.forall_mem_cons.mpr ⟨lw_p92, List.forall_mem_cons.mpr ⟨lw_p93, List.forall_mem_cons.mpr ⟨lw_p94, List.forall_mem_cons.mpr ⟨lw_p95, fun _ h => absurd h List.not_mem_nil⟩⟩⟩⟩⟩⟩⟩⟩⟩⟩⟩⟩⟩⟩⟩⟩
theorem lw_p96 : lw_okq (⟨"TimeWishesModel", "sizes", "(I)I"⟩, 26) := ⟨⟨by decide +kernel, by decide +kernel⟩, List.mem_of_getElem? (i := 602) (by decide +kernel), List.mem_of_getElem? (i := 935) (by decide +kernel), List.mem_of_getElem? (i := 936) (by decide +kernel)⟩
theorem lw_p97 : lw_okq (⟨"TimeWishesModel", "isPart", "(II)Z"⟩, 26) := ⟨⟨by decide +kernel, by decide +kernel⟩, List.mem_of_getElem? (i := 602) (by decide +kernel), List.mem_of_getElem? (i := 943) (by decide +kernel), List.mem_of_getElem? (i := 944) (by decide +kernel)⟩
theorem lw_p98 : lw_okq (⟨"TimeWishesModel", "letterOf", "(II)I"⟩, 26) := ⟨⟨by decide +kernel, by decide +kernel⟩, List.mem_of_getElem? (i := 602) (by decide +kernel), List.mem_of_getElem? (i := 947) (by decide +kernel), List.mem_of_getElem? (i := 948) (by decide +kernel)⟩
theorem lw_p99 : lw_okq (⟨"TimeWishesModel", "signs", "(I)I"⟩, 26) := ⟨⟨by decide +kernel, by decide +kernel⟩, List.mem_of_getElem? (i := 602) (by decide +kernel), List.mem_of_getElem? (i := 955) (by decide +kernel), List.mem_of_getElem? (i := 956) (by decide +kernel)⟩
theorem lw_p100 : lw_okq (⟨"TimeWishesModel", "isOpen", "(I)Z"⟩, 26) := ⟨⟨by decide +kernel, by decide +kernel⟩, List.mem_of_getElem? (i := 602) (by decide +kernel), List.mem_of_getElem? (i := 971) (by decide +kernel), List.mem_of_getElem? (i := 972) (by decide +kernel)⟩
theorem lw_p101 : lw_okq (⟨"TimeWishesModel", "wishesThat", "(I)I"⟩, 26) := ⟨⟨by decide +kernel, by decide +kernel⟩, List.mem_of_getElem? (i := 602) (by decide +kernel), List.mem_of_getElem? (i := 983) (by decide +kernel), List.mem_of_getElem? (i := 984) (by decide +kernel)⟩
def lw_privs_7 : List (MethodName × Nat) := [(⟨"TimeWishesModel", "sizes", "(I)I"⟩, 26), (⟨"TimeWishesModel", "isPart", "(II)Z"⟩, 26), (⟨"TimeWishesModel", "letterOf", "(II)I"⟩, 26), (⟨"TimeWishesModel", "signs", "(I)I"⟩, 26), (⟨"TimeWishesModel", "isOpen", "(I)Z"⟩, 26), (⟨"TimeWishesModel", "wishesThat", "(I)I"⟩, 26)]
theorem lw_r7 : ∀ q ∈ lw_privs_7, lw_okq q := List.forall_mem_cons.mpr ⟨lw_p96, List.forall_mem_cons.mpr ⟨lw_p97, List.forall_mem_cons.mpr ⟨lw_p98, List.forall_mem_cons.mpr ⟨lw_p99, List.forall_mem_cons.mpr ⟨lw_p100, List.forall_mem_cons.mpr ⟨lw_p101, fun _ h => absurd h List.not_mem_nil⟩⟩⟩⟩⟩⟩
def lw_privs : List (MethodName × Nat) := lw_privs_1 ++ (lw_privs_2 ++ (lw_privs_3 ++ (lw_privs_4 ++ (lw_privs_5 ++ (lw_privs_6 ++ (lw_privs_7))))))
def lw_tbl : List Cond := k2_sels lw_privs ++ tables_1
theorem lw_privs_ok : ∀ q ∈ lw_privs, lw_okq q := by
  show ∀ q ∈ lw_privs_1 ++ (lw_privs_2 ++ (lw_privs_3 ++ (lw_privs_4 ++ (lw_privs_5 ++ (lw_privs_6 ++ (lw_privs_7)))))), lw_okq q
  exact List.forall_mem_append.mpr ⟨lw_r1, List.forall_mem_append.mpr ⟨lw_r2, List.forall_mem_append.mpr ⟨lw_r3, List.forall_mem_append.mpr ⟨lw_r4, List.forall_mem_append.mpr ⟨lw_r5, List.forall_mem_append.mpr ⟨lw_r6, lw_r7⟩⟩⟩⟩⟩⟩
-- ===== end of PART A; then your names; then what follows =====
end
section
def RX0 : String := "TimeWishes$Changes"
def TX0 : u_T := fun k => match k with
  | 0 => ("TimeWishes$Changes", "forms", "LTimeWishes$Forms;", true)
  | 1 => ("TimeWishes$Changes", "becomes", "[I", true)
  | 2 => ("TimeWishes$Changes", "row", "[I", true)
  | 3 => ("TimeWishes$Changes", "pair", "[I", true)
  | 4 => ("TimeWishes$Changes", "joiner", "I", false)
  | 5 => ("TimeWishes$Changes", "length", "I", false)
  | _ => ("TimeWishes$Changes", "leaves", "I", false)
def tyX0 : Nat → FieldType := fun k => match k with
  | 0 => .object "TimeWishes$Forms"
  | 1 => .array .int
  | 2 => .array .int
  | 3 => .array .int
  | 4 => .int
  | 5 => .int
  | _ => .int
abbrev wsX00 : List Cond := u_ws RX0 TX0 7
theorem nmX0 : ∀ a, a < 7 → ∀ b, b < 7 → a ≠ b → (TX0 a).2.1 ≠ (TX0 b).2.1 := by decide +kernel
theorem tyX0_ok : ∀ k, k < 7 → parseFieldDescriptor (TX0 k).2.2.1 = some (tyX0 k) := by decide +kernel
abbrev cX0_init : ByteArray := prog_2_method_1_code
def yX0_init : MethodName := ⟨RX0, "<init>", "(LTimeWishes$Forms;)V"⟩
abbrev cX0_begin : ByteArray := prog_2_method_2_code
def yX0_begin : MethodName := ⟨RX0, "begin", "(I)V"⟩
abbrev cX0_put : ByteArray := prog_2_method_3_code
def yX0_put : MethodName := ⟨RX0, "put", "(I)V"⟩
abbrev cX0_neutral : ByteArray := prog_2_method_4_code
def yX0_neutral : MethodName := ⟨RX0, "neutral", "()I"⟩
abbrev cX0_done : ByteArray := prog_2_method_5_code
def yX0_done : MethodName := ⟨RX0, "done", "()I"⟩
abbrev cX0_two : ByteArray := prog_2_method_6_code
def yX0_two : MethodName := ⟨RX0, "two", "(III)I"⟩
abbrev cX0_make : ByteArray := prog_2_method_7_code
def yX0_make : MethodName := ⟨RX0, "make", "(III)I"⟩
abbrev cX0_behind : ByteArray := prog_2_method_8_code
def yX0_behind : MethodName := ⟨RX0, "behind", "(II)I"⟩
abbrev cX0_opposite : ByteArray := prog_2_method_9_code
def yX0_opposite : MethodName := ⟨RX0, "opposite", "(I)I"⟩
abbrev cX0_joinKids : ByteArray := prog_2_method_10_code
def yX0_joinKids : MethodName := ⟨RX0, "joinKids", "(II)I"⟩
def RX1 : String := "TimeWishes$Forms"
def TX1 : u_T := fun k => match k with
  | 0 => ("TimeWishes$Forms", "kind", "[I", true)
  | 1 => ("TimeWishes$Forms", "start", "[I", true)
  | 2 => ("TimeWishes$Forms", "number", "[I", true)
  | 3 => ("TimeWishes$Forms", "size", "[I", true)
  | 4 => ("TimeWishes$Forms", "signs", "[I", true)
  | 5 => ("TimeWishes$Forms", "trueAtEnd", "[Z", true)
  | 6 => ("TimeWishes$Forms", "firstLetter", "[C", true)
  | 7 => ("TimeWishes$Forms", "kids", "[I", true)
  | 8 => ("TimeWishes$Forms", "newestOfSlot", "[I", true)
  | 9 => ("TimeWishes$Forms", "olderOfSlot", "[I", true)
  | 10 => ("TimeWishes$Forms", "slot", "[I", true)
  | 11 => ("TimeWishes$Forms", "top", "I", false)
  | _ => ("TimeWishes$Forms", "kidsTop", "I", false)
def tyX1 : Nat → FieldType := fun k => match k with
  | 0 => .array .int
  | 1 => .array .int
  | 2 => .array .int
  | 3 => .array .int
  | 4 => .array .int
  | 5 => .array .boolean
  | 6 => .array .char
  | 7 => .array .int
  | 8 => .array .int
  | 9 => .array .int
  | 10 => .array .int
  | 11 => .int
  | _ => .int
abbrev wsX10 : List Cond := u_ws RX1 TX1 13
theorem nmX1 : ∀ a, a < 13 → ∀ b, b < 13 → a ≠ b → (TX1 a).2.1 ≠ (TX1 b).2.1 := by decide +kernel
theorem tyX1_ok : ∀ k, k < 13 → parseFieldDescriptor (TX1 k).2.2.1 = some (tyX1 k) := by decide +kernel
abbrev cX1_init : ByteArray := prog_3_method_1_code
def yX1_init : MethodName := ⟨RX1, "<init>", "()V"⟩
abbrev cX1_kid : ByteArray := prog_3_method_2_code
def yX1_kid : MethodName := ⟨RX1, "kid", "(II)I"⟩
abbrev cX1_release : ByteArray := prog_3_method_3_code
def yX1_release : MethodName := ⟨RX1, "release", "(I)V"⟩
abbrev cX1_make : ByteArray := prog_3_method_4_code
def yX1_make : MethodName := ⟨RX1, "make", "(I[III)I"⟩
abbrev cX1_isMadeOf : ByteArray := prog_3_method_5_code
def yX1_isMadeOf : MethodName := ⟨RX1, "isMadeOf", "(II[III)Z"⟩
abbrev cX1_describe : ByteArray := prog_3_method_6_code
def yX1_describe : MethodName := ⟨RX1, "describe", "(I)V"⟩
abbrev cX1_order : ByteArray := prog_3_method_7_code
def yX1_order : MethodName := ⟨RX1, "order", "(II)I"⟩
def RX2 : String := "TimeWishes$Reader"
def TX2 : u_T := fun k => match k with
  | 0 => ("TimeWishes$Reader", "forms", "LTimeWishes$Forms;", true)
  | 1 => ("TimeWishes$Reader", "changes", "LTimeWishes$Changes;", true)
  | 2 => ("TimeWishes$Reader", "text", "[C", true)
  | 3 => ("TimeWishes$Reader", "values", "[I", true)
  | 4 => ("TimeWishes$Reader", "waiting", "[C", true)
  | 5 => ("TimeWishes$Reader", "length", "I", false)
  | 6 => ("TimeWishes$Reader", "valuesHeld", "I", false)
  | _ => ("TimeWishes$Reader", "waitingHeld", "I", false)
def tyX2 : Nat → FieldType := fun k => match k with
  | 0 => .object "TimeWishes$Forms"
  | 1 => .object "TimeWishes$Changes"
  | 2 => .array .char
  | 3 => .array .int
  | 4 => .array .char
  | 5 => .int
  | 6 => .int
  | _ => .int
abbrev wsX20 : List Cond := u_ws RX2 TX2 8
theorem nmX2 : ∀ a, a < 8 → ∀ b, b < 8 → a ≠ b → (TX2 a).2.1 ≠ (TX2 b).2.1 := by decide +kernel
theorem tyX2_ok : ∀ k, k < 8 → parseFieldDescriptor (TX2 k).2.2.1 = some (tyX2 k) := by decide +kernel
abbrev cX2_init : ByteArray := prog_4_method_1_code
def yX2_init : MethodName := ⟨RX2, "<init>", "(LTimeWishes$Forms;LTimeWishes$Changes;)V"⟩
abbrev cX2_append : ByteArray := prog_4_method_2_code
def yX2_append : MethodName := ⟨RX2, "append", "(C)Z"⟩
abbrev cX2_findFault : ByteArray := prog_4_method_3_code
def yX2_findFault : MethodName := ⟨RX2, "findFault", "()I"⟩
abbrev cX2_read : ByteArray := prog_4_method_4_code
def yX2_read : MethodName := ⟨RX2, "read", "()I"⟩
abbrev cX2_hold : ByteArray := prog_4_method_5_code
def yX2_hold : MethodName := ⟨RX2, "hold", "(I)V"⟩
abbrev cX2_await : ByteArray := prog_4_method_6_code
def yX2_await : MethodName := ⟨RX2, "await", "(C)V"⟩
abbrev cX2_applyInFront : ByteArray := prog_4_method_7_code
def yX2_applyInFront : MethodName := ⟨RX2, "applyInFront", "()V"⟩
abbrev cX2_combineDownTo : ByteArray := prog_4_method_8_code
def yX2_combineDownTo : MethodName := ⟨RX2, "combineDownTo", "(I)V"⟩
abbrev cX2_leastToCombine : ByteArray := prog_4_method_9_code
def yX2_leastToCombine : MethodName := ⟨RX2, "leastToCombine", "(C)I"⟩
abbrev cX2_binding : ByteArray := prog_4_method_10_code
def yX2_binding : MethodName := ⟨RX2, "binding", "(C)I"⟩
abbrev cX2_isBetween : ByteArray := prog_4_method_11_code
def yX2_isBetween : MethodName := ⟨RX2, "isBetween", "(C)Z"⟩
abbrev cX2_isInFront : ByteArray := prog_4_method_12_code
def yX2_isInFront : MethodName := ⟨RX2, "isInFront", "(C)Z"⟩
abbrev cX2_isValue : ByteArray := prog_4_method_13_code
def yX2_isValue : MethodName := ⟨RX2, "isValue", "(C)Z"⟩
abbrev cX2_valueOf : ByteArray := prog_4_method_14_code
def yX2_valueOf : MethodName := ⟨RX2, "valueOf", "(C)I"⟩
def RX3 : String := "TimeWishes$Scribe"
def TX3 : u_T := fun k => match k with
  | 0 => ("TimeWishes$Scribe", "forms", "LTimeWishes$Forms;", true)
  | 1 => ("TimeWishes$Scribe", "stack", "[I", true)
  | 2 => ("TimeWishes$Scribe", "letters", "[C", true)
  | 3 => ("TimeWishes$Scribe", "separators", "[C", true)
  | 4 => ("TimeWishes$Scribe", "left", "[I", true)
  | 5 => ("TimeWishes$Scribe", "length", "I", false)
  | _ => ("TimeWishes$Scribe", "openBrackets", "I", false)
def tyX3 : Nat → FieldType := fun k => match k with
  | 0 => .object "TimeWishes$Forms"
  | 1 => .array .int
  | 2 => .array .char
  | 3 => .array .char
  | 4 => .array .int
  | 5 => .int
  | _ => .int
abbrev wsX30 : List Cond := u_ws RX3 TX3 7
theorem nmX3 : ∀ a, a < 7 → ∀ b, b < 7 → a ≠ b → (TX3 a).2.1 ≠ (TX3 b).2.1 := by decide +kernel
theorem tyX3_ok : ∀ k, k < 7 → parseFieldDescriptor (TX3 k).2.2.1 = some (tyX3 k) := by decide +kernel
abbrev cX3_init : ByteArray := prog_5_method_1_code
def yX3_init : MethodName := ⟨RX3, "<init>", "(LTimeWishes$Forms;)V"⟩
abbrev cX3_load : ByteArray := prog_5_method_2_code
def yX3_load : MethodName := ⟨RX3, "load", "(LTimeWishes$Wish;I)I"⟩
abbrev cX3_save : ByteArray := prog_5_method_3_code
def yX3_save : MethodName := ⟨RX3, "save", "(ILTimeWishes$Wish;I)V"⟩
abbrev cX3_spell : ByteArray := prog_5_method_4_code
def yX3_spell : MethodName := ⟨RX3, "spell", "(LTimeWishes$Wish;I)I"⟩
abbrev cX3_spellLeaf : ByteArray := prog_5_method_5_code
def yX3_spellLeaf : MethodName := ⟨RX3, "spellLeaf", "(I)V"⟩
abbrev cX3_spellBehindForm : ByteArray := prog_5_method_6_code
def yX3_spellBehindForm : MethodName := ⟨RX3, "spellBehindForm", "()V"⟩
abbrev cX3_write : ByteArray := prog_5_method_7_code
def yX3_write : MethodName := ⟨RX3, "write", "(C)V"⟩
def RX4 : String := "TimeWishes$State"
def TX4 : u_T := fun k => match k with
  | 0 => ("TimeWishes$State", "ended", "Z", false)
  | 1 => ("TimeWishes$State", "events", "I", false)
  | 2 => ("TimeWishes$State", "wishesSoFar", "I", false)
  | 3 => ("TimeWishes$State", "sets", "[I", true)
  | _ => ("TimeWishes$State", "wishes", "[LTimeWishes$Wish;", true)
def tyX4 : Nat → FieldType := fun k => match k with
  | 0 => .boolean
  | 1 => .int
  | 2 => .int
  | 3 => .array .int
  | _ => .array (.object "TimeWishes$Wish")
abbrev wsX40 : List Cond := u_ws RX4 TX4 5
theorem nmX4 : ∀ a, a < 5 → ∀ b, b < 5 → a ≠ b → (TX4 a).2.1 ≠ (TX4 b).2.1 := by decide +kernel
theorem tyX4_ok : ∀ k, k < 5 → parseFieldDescriptor (TX4 k).2.2.1 = some (tyX4 k) := by decide +kernel
abbrev cX4_init : ByteArray := prog_6_method_1_code
def yX4_init : MethodName := ⟨RX4, "<init>", "()V"⟩
abbrev cX4_copyFrom : ByteArray := prog_6_method_2_code
def yX4_copyFrom : MethodName := ⟨RX4, "copyFrom", "(LTimeWishes$State;)V"⟩
abbrev cX4_find : ByteArray := prog_6_method_3_code
def yX4_find : MethodName := ⟨RX4, "find", "(I)LTimeWishes$Wish;"⟩
abbrev cX4_isOpen : ByteArray := prog_6_method_4_code
def yX4_isOpen : MethodName := ⟨RX4, "isOpen", "(I)Z"⟩
abbrev cX4_rankOfOpen : ByteArray := prog_6_method_5_code
def yX4_rankOfOpen : MethodName := ⟨RX4, "rankOfOpen", "(I)I"⟩
abbrev cX4_howManyThere : ByteArray := prog_6_method_6_code
def yX4_howManyThere : MethodName := ⟨RX4, "howManyThere", "()I"⟩
abbrev cX4_howMany : ByteArray := prog_6_method_7_code
def yX4_howMany : MethodName := ⟨RX4, "howMany", "(I)I"⟩
def RX5 : String := "TimeWishes$Wish"
def TX5 : u_T := fun k => match k with
  | 0 => ("TimeWishes$Wish", "there", "Z", false)
  | 1 => ("TimeWishes$Wish", "verdict", "I", false)
  | 2 => ("TimeWishes$Wish", "parts", "I", false)
  | 3 => ("TimeWishes$Wish", "decidedAt", "I", false)
  | 4 => ("TimeWishes$Wish", "blame", "I", false)
  | 5 => ("TimeWishes$Wish", "cameAt", "I", false)
  | 6 => ("TimeWishes$Wish", "sizes", "[I", true)
  | _ => ("TimeWishes$Wish", "codes", "[I", true)
def tyX5 : Nat → FieldType := fun k => match k with
  | 0 => .boolean
  | 1 => .int
  | 2 => .int
  | 3 => .int
  | 4 => .int
  | 5 => .int
  | 6 => .array .int
  | _ => .array .int
abbrev wsX50 : List Cond := u_ws RX5 TX5 8
theorem nmX5 : ∀ a, a < 8 → ∀ b, b < 8 → a ≠ b → (TX5 a).2.1 ≠ (TX5 b).2.1 := by decide +kernel
theorem tyX5_ok : ∀ k, k < 8 → parseFieldDescriptor (TX5 k).2.2.1 = some (tyX5 k) := by decide +kernel
abbrev cX5_init : ByteArray := prog_7_method_1_code
def yX5_init : MethodName := ⟨RX5, "<init>", "()V"⟩
abbrev cX5_come : ByteArray := prog_7_method_2_code
def yX5_come : MethodName := ⟨RX5, "come", "(II)V"⟩
abbrev cX5_judge : ByteArray := prog_7_method_3_code
def yX5_judge : MethodName := ⟨RX5, "judge", "(I)Z"⟩
abbrev cX5_copyFrom : ByteArray := prog_7_method_4_code
def yX5_copyFrom : MethodName := ⟨RX5, "copyFrom", "(LTimeWishes$Wish;)V"⟩
abbrev cX5_partsThatAre : ByteArray := prog_7_method_5_code
def yX5_partsThatAre : MethodName := ⟨RX5, "partsThatAre", "(I)I"⟩
abbrev cX5_verdictOfParts : ByteArray := prog_7_method_6_code
def yX5_verdictOfParts : MethodName := ⟨RX5, "verdictOfParts", "()I"⟩
abbrev cX5_sizeOfParts : ByteArray := prog_7_method_7_code
def yX5_sizeOfParts : MethodName := ⟨RX5, "sizeOfParts", "()I"⟩
def RX6 : String := "TimeWishes"
def TX6 : u_T := fun k => match k with
  | 0 => ("TimeWishes", "forms", "LTimeWishes$Forms;", true)
  | 1 => ("TimeWishes", "changes", "LTimeWishes$Changes;", true)
  | 2 => ("TimeWishes", "scribe", "LTimeWishes$Scribe;", true)
  | 3 => ("TimeWishes", "reader", "LTimeWishes$Reader;", true)
  | 4 => ("TimeWishes", "outcomes", "[I", true)
  | 5 => ("TimeWishes", "partOutcomes", "[I", true)
  | 6 => ("TimeWishes", "history", "[LTimeWishes$State;", true)
  | 7 => ("TimeWishes", "snapshot", "LTimeWishes$State;", true)
  | 8 => ("TimeWishes", "now", "LTimeWishes$State;", false)
  | 9 => ("TimeWishes", "spare", "LTimeWishes$State;", false)
  | 10 => ("TimeWishes", "states", "I", false)
  | _ => ("TimeWishes", "kept", "Z", false)
def tyX6 : Nat → FieldType := fun k => match k with
  | 0 => .object "TimeWishes$Forms"
  | 1 => .object "TimeWishes$Changes"
  | 2 => .object "TimeWishes$Scribe"
  | 3 => .object "TimeWishes$Reader"
  | 4 => .array .int
  | 5 => .array .int
  | 6 => .array (.object "TimeWishes$State")
  | 7 => .object "TimeWishes$State"
  | 8 => .object "TimeWishes$State"
  | 9 => .object "TimeWishes$State"
  | 10 => .int
  | _ => .boolean
abbrev wsX60 : List Cond := u_ws RX6 TX6 12
theorem nmX6 : ∀ a, a < 12 → ∀ b, b < 12 → a ≠ b → (TX6 a).2.1 ≠ (TX6 b).2.1 := by decide +kernel
theorem tyX6_ok : ∀ k, k < 12 → parseFieldDescriptor (TX6 k).2.2.1 = some (tyX6 k) := by decide +kernel
abbrev cX6_init : ByteArray := prog_1_method_1_code
def yX6_init : MethodName := ⟨RX6, "<init>", "()V"⟩
abbrev cX6_event : ByteArray := prog_1_method_2_code
def yX6_event : MethodName := ⟨RX6, "event", "(I)I"⟩
abbrev cX6_end : ByteArray := prog_1_method_3_code
def yX6_end : MethodName := ⟨RX6, "end", "()I"⟩
abbrev cX6_addWish : ByteArray := prog_1_method_4_code
def yX6_addWish : MethodName := ⟨RX6, "addWish", "()I"⟩
abbrev cX6_join : ByteArray := prog_1_method_5_code
def yX6_join : MethodName := ⟨RX6, "join", "(IIZ)I"⟩
abbrev cX6_removeWish : ByteArray := prog_1_method_6_code
def yX6_removeWish : MethodName := ⟨RX6, "removeWish", "(I)I"⟩
abbrev cX6_type : ByteArray := prog_1_method_7_code
def yX6_type : MethodName := ⟨RX6, "type", "(C)I"⟩
abbrev cX6_clearText : ByteArray := prog_1_method_8_code
def yX6_clearText : MethodName := ⟨RX6, "clearText", "()I"⟩
abbrev cX6_undo : ByteArray := prog_1_method_9_code
def yX6_undo : MethodName := ⟨RX6, "undo", "()I"⟩
abbrev cX6_keep : ByteArray := prog_1_method_10_code
def yX6_keep : MethodName := ⟨RX6, "keep", "()I"⟩
abbrev cX6_restore : ByteArray := prog_1_method_11_code
def yX6_restore : MethodName := ⟨RX6, "restore", "()I"⟩
abbrev cX6_wish : ByteArray := prog_1_method_12_code
def yX6_wish : MethodName := ⟨RX6, "wish", "(II)I"⟩
abbrev cX6_letter : ByteArray := prog_1_method_13_code
def yX6_letter : MethodName := ⟨RX6, "letter", "(III)I"⟩
abbrev cX6_part : ByteArray := prog_1_method_14_code
def yX6_part : MethodName := ⟨RX6, "part", "(III)I"⟩
abbrev cX6_would : ByteArray := prog_1_method_15_code
def yX6_would : MethodName := ⟨RX6, "would", "(II)I"⟩
abbrev cX6_bears : ByteArray := prog_1_method_16_code
def yX6_bears : MethodName := ⟨RX6, "bears", "(II)I"⟩
abbrev cX6_open : ByteArray := prog_1_method_17_code
def yX6_open : MethodName := ⟨RX6, "open", "(I)I"⟩
abbrev cX6_at : ByteArray := prog_1_method_18_code
def yX6_at : MethodName := ⟨RX6, "at", "(I)I"⟩
abbrev cX6_count : ByteArray := prog_1_method_19_code
def yX6_count : MethodName := ⟨RX6, "count", "(I)I"⟩
abbrev cX6_recordAndGoOn : ByteArray := prog_1_method_20_code
def yX6_recordAndGoOn : MethodName := ⟨RX6, "recordAndGoOn", "()V"⟩
abbrev cX6_rewriteParts : ByteArray := prog_1_method_21_code
def yX6_rewriteParts : MethodName := ⟨RX6, "rewriteParts", "(LTimeWishes$Wish;LTimeWishes$Wish;I)Z"⟩
abbrev cX6_signsToBlame : ByteArray := prog_1_method_22_code
def yX6_signsToBlame : MethodName := ⟨RX6, "signsToBlame", "(LTimeWishes$Wish;I)I"⟩
abbrev cX6_endParts : ByteArray := prog_1_method_23_code
def yX6_endParts : MethodName := ⟨RX6, "endParts", "(LTimeWishes$Wish;)V"⟩
abbrev cX6_bring : ByteArray := prog_1_method_24_code
def yX6_bring : MethodName := ⟨RX6, "bring", "(I)I"⟩
abbrev cX6_loadAlone : ByteArray := prog_1_method_25_code
def yX6_loadAlone : MethodName := ⟨RX6, "loadAlone", "(LTimeWishes$Wish;I)I"⟩
abbrev cX6_allOfParts : ByteArray := prog_1_method_26_code
def yX6_allOfParts : MethodName := ⟨RX6, "allOfParts", "(LTimeWishes$Wish;)I"⟩
abbrev cX6_verdictIfEnded : ByteArray := prog_1_method_27_code
def yX6_verdictIfEnded : MethodName := ⟨RX6, "verdictIfEnded", "(LTimeWishes$Wish;)I"⟩
abbrev cX6_verdictBehind : ByteArray := prog_1_method_28_code
def yX6_verdictBehind : MethodName := ⟨RX6, "verdictBehind", "(LTimeWishes$Wish;I)I"⟩
abbrev cX6_findOutcomes : ByteArray := prog_1_method_29_code
def yX6_findOutcomes : MethodName := ⟨RX6, "findOutcomes", "(LTimeWishes$Wish;)V"⟩
abbrev cX6_addOutcomesOfPart : ByteArray := prog_1_method_30_code
def yX6_addOutcomesOfPart : MethodName := ⟨RX6, "addOutcomesOfPart", "(LTimeWishes$Wish;I)V"⟩
abbrev cX6_verdictOfForm : ByteArray := prog_1_method_31_code
def yX6_verdictOfForm : MethodName := ⟨RX6, "verdictOfForm", "(I)I"⟩
abbrev cX6_worse : ByteArray := prog_1_method_32_code
def yX6_worse : MethodName := ⟨RX6, "worse", "(II)I"⟩
def RX7 : String := "TimeWishesModel"
def TX7 : u_T := fun k => match k with
  | 0 => ("TimeWishesModel", "s", "[I", true)
  | 1 => ("TimeWishesModel", "before", "[I", true)
  | 2 => ("TimeWishesModel", "kept", "[I", true)
  | 3 => ("TimeWishesModel", "kind", "[I", true)
  | 4 => ("TimeWishesModel", "one", "[I", true)
  | 5 => ("TimeWishesModel", "two", "[I", true)
  | 6 => ("TimeWishesModel", "size", "[I", true)
  | 7 => ("TimeWishesModel", "wide", "[I", true)
  | 8 => ("TimeWishesModel", "became", "[I", true)
  | 9 => ("TimeWishesModel", "marked", "[Z", true)
  | 10 => ("TimeWishesModel", "list", "[I", true)
  | 11 => ("TimeWishesModel", "nodes", "I", false)
  | 12 => ("TimeWishesModel", "listed", "I", false)
  | 13 => ("TimeWishesModel", "put", "[I", true)
  | 14 => ("TimeWishesModel", "putMany", "I", false)
  | 15 => ("TimeWishesModel", "isAbsorbed", "Z", false)
  | 16 => ("TimeWishesModel", "values", "[I", true)
  | 17 => ("TimeWishesModel", "waiting", "[C", true)
  | 18 => ("TimeWishesModel", "valueMany", "I", false)
  | 19 => ("TimeWishesModel", "waitingMany", "I", false)
  | 20 => ("TimeWishesModel", "roots", "[I", true)
  | 21 => ("TimeWishesModel", "rootMany", "I", false)
  | 22 => ("TimeWishesModel", "text", "[C", true)
  | 23 => ("TimeWishesModel", "length", "I", false)
  | 24 => ("TimeWishesModel", "states", "I", false)
  | _ => ("TimeWishesModel", "isKept", "Z", false)
def tyX7 : Nat → FieldType := fun k => match k with
  | 0 => .array .int
  | 1 => .array .int
  | 2 => .array .int
  | 3 => .array .int
  | 4 => .array .int
  | 5 => .array .int
  | 6 => .array .int
  | 7 => .array .int
  | 8 => .array .int
  | 9 => .array .boolean
  | 10 => .array .int
  | 11 => .int
  | 12 => .int
  | 13 => .array .int
  | 14 => .int
  | 15 => .boolean
  | 16 => .array .int
  | 17 => .array .char
  | 18 => .int
  | 19 => .int
  | 20 => .array .int
  | 21 => .int
  | 22 => .array .char
  | 23 => .int
  | 24 => .int
  | _ => .boolean
abbrev wsX70 : List Cond := u_ws RX7 TX7 26
theorem nmX7 : ∀ a, a < 26 → ∀ b, b < 26 → a ≠ b → (TX7 a).2.1 ≠ (TX7 b).2.1 := by decide +kernel
theorem tyX7_ok : ∀ k, k < 26 → parseFieldDescriptor (TX7 k).2.2.1 = some (tyX7 k) := by decide +kernel
abbrev cX7_init : ByteArray := prog_9_method_1_code
def yX7_init : MethodName := ⟨RX7, "<init>", "()V"⟩
abbrev cX7_in : ByteArray := prog_9_method_2_code
def yX7_in : MethodName := ⟨RX7, "in", "(III)Z"⟩
abbrev cX7_record : ByteArray := prog_9_method_3_code
def yX7_record : MethodName := ⟨RX7, "record", "()V"⟩
abbrev cX7_w : ByteArray := prog_9_method_4_code
def yX7_w : MethodName := ⟨RX7, "w", "(I)I"⟩
abbrev cX7_cell : ByteArray := prog_9_method_5_code
def yX7_cell : MethodName := ⟨RX7, "cell", "(III)I"⟩
abbrev cX7_isThere : ByteArray := prog_9_method_6_code
def yX7_isThere : MethodName := ⟨RX7, "isThere", "(I)Z"⟩
abbrev cX7_verdict : ByteArray := prog_9_method_7_code
def yX7_verdict : MethodName := ⟨RX7, "verdict", "(I)I"⟩
abbrev cX7_empty : ByteArray := prog_9_method_8_code
def yX7_empty : MethodName := ⟨RX7, "empty", "()V"⟩
abbrev cX7_childMany : ByteArray := prog_9_method_9_code
def yX7_childMany : MethodName := ⟨RX7, "childMany", "(I)I"⟩
abbrev cX7_child : ByteArray := prog_9_method_10_code
def yX7_child : MethodName := ⟨RX7, "child", "(II)I"⟩
abbrev cX7_make : ByteArray := prog_9_method_11_code
def yX7_make : MethodName := ⟨RX7, "make", "(III)I"⟩
abbrev cX7_isList : ByteArray := prog_9_method_12_code
def yX7_isList : MethodName := ⟨RX7, "isList", "(II)Z"⟩
abbrev cX7_makeList : ByteArray := prog_9_method_13_code
def yX7_makeList : MethodName := ⟨RX7, "makeList", "(I)I"⟩
abbrev cX7_begins : ByteArray := prog_9_method_14_code
def yX7_begins : MethodName := ⟨RX7, "begins", "(I)I"⟩
abbrev cX7_behind : ByteArray := prog_9_method_15_code
def yX7_behind : MethodName := ⟨RX7, "behind", "(II)I"⟩
abbrev cX7_isAhead : ByteArray := prog_9_method_16_code
def yX7_isAhead : MethodName := ⟨RX7, "isAhead", "(II)Z"⟩
abbrev cX7_beginPut : ByteArray := prog_9_method_17_code
def yX7_beginPut : MethodName := ⟨RX7, "beginPut", "()V"⟩
abbrev cX7_counter : ByteArray := prog_9_method_18_code
def yX7_counter : MethodName := ⟨RX7, "counter", "(I)I"⟩
abbrev cX7_putOne : ByteArray := prog_9_method_19_code
def yX7_putOne : MethodName := ⟨RX7, "putOne", "(II)V"⟩
abbrev cX7_putIn : ByteArray := prog_9_method_20_code
def yX7_putIn : MethodName := ⟨RX7, "putIn", "(II)V"⟩
abbrev cX7_endPut : ByteArray := prog_9_method_21_code
def yX7_endPut : MethodName := ⟨RX7, "endPut", "(I)I"⟩
abbrev cX7_both : ByteArray := prog_9_method_22_code
def yX7_both : MethodName := ⟨RX7, "both", "(III)I"⟩
abbrev cX7_mark : ByteArray := prog_9_method_23_code
def yX7_mark : MethodName := ⟨RX7, "mark", "(I)V"⟩
abbrev cX7_putAll : ByteArray := prog_9_method_24_code
def yX7_putAll : MethodName := ⟨RX7, "putAll", "(II)I"⟩
abbrev cX7_rewritten : ByteArray := prog_9_method_25_code
def yX7_rewritten : MethodName := ⟨RX7, "rewritten", "(II)I"⟩
abbrev cX7_step : ByteArray := prog_9_method_26_code
def yX7_step : MethodName := ⟨RX7, "step", "(I)I"⟩
abbrev cX7_opposite : ByteArray := prog_9_method_27_code
def yX7_opposite : MethodName := ⟨RX7, "opposite", "(I)I"⟩
abbrev cX7_turned : ByteArray := prog_9_method_28_code
def yX7_turned : MethodName := ⟨RX7, "turned", "(I)I"⟩
abbrev cX7_isTrue : ByteArray := prog_9_method_29_code
def yX7_isTrue : MethodName := ⟨RX7, "isTrue", "(I)Z"⟩
abbrev cX7_store : ByteArray := prog_9_method_30_code
def yX7_store : MethodName := ⟨RX7, "store", "(III)V"⟩
abbrev cX7_load : ByteArray := prog_9_method_31_code
def yX7_load : MethodName := ⟨RX7, "load", "(II)I"⟩
abbrev cX7_loadAlone : ByteArray := prog_9_method_32_code
def yX7_loadAlone : MethodName := ⟨RX7, "loadAlone", "(II)I"⟩
abbrev cX7_formOf : ByteArray := prog_9_method_33_code
def yX7_formOf : MethodName := ⟨RX7, "formOf", "(II)I"⟩
abbrev cX7_partsThat : ByteArray := prog_9_method_34_code
def yX7_partsThat : MethodName := ⟨RX7, "partsThat", "(II)I"⟩
abbrev cX7_verdictBy : ByteArray := prog_9_method_35_code
def yX7_verdictBy : MethodName := ⟨RX7, "verdictBy", "(I)I"⟩
abbrev cX7_wouldBe : ByteArray := prog_9_method_36_code
def yX7_wouldBe : MethodName := ⟨RX7, "wouldBe", "(II)I"⟩
abbrev cX7_blame : ByteArray := prog_9_method_37_code
def yX7_blame : MethodName := ⟨RX7, "blame", "(II)I"⟩
abbrev cX7_isTooGreat : ByteArray := prog_9_method_38_code
def yX7_isTooGreat : MethodName := ⟨RX7, "isTooGreat", "(I)Z"⟩
abbrev cX7_happens : ByteArray := prog_9_method_39_code
def yX7_happens : MethodName := ⟨RX7, "happens", "(II)I"⟩
abbrev cX7_event : ByteArray := prog_9_method_40_code
def yX7_event : MethodName := ⟨RX7, "event", "(I)I"⟩
abbrev cX7_end : ByteArray := prog_9_method_41_code
def yX7_end : MethodName := ⟨RX7, "end", "()I"⟩
abbrev cX7_isThing : ByteArray := prog_9_method_42_code
def yX7_isThing : MethodName := ⟨RX7, "isThing", "(C)Z"⟩
abbrev cX7_isAheadSign : ByteArray := prog_9_method_43_code
def yX7_isAheadSign : MethodName := ⟨RX7, "isAheadSign", "(C)Z"⟩
abbrev cX7_rank : ByteArray := prog_9_method_44_code
def yX7_rank : MethodName := ⟨RX7, "rank", "(C)I"⟩
abbrev cX7_faultOf : ByteArray := prog_9_method_45_code
def yX7_faultOf : MethodName := ⟨RX7, "faultOf", "()I"⟩
abbrev cX7_apply : ByteArray := prog_9_method_46_code
def yX7_apply : MethodName := ⟨RX7, "apply", "()V"⟩
abbrev cX7_applyAhead : ByteArray := prog_9_method_47_code
def yX7_applyAhead : MethodName := ⟨RX7, "applyAhead", "()V"⟩
abbrev cX7_readOne : ByteArray := prog_9_method_48_code
def yX7_readOne : MethodName := ⟨RX7, "readOne", "(C)V"⟩
abbrev cX7_read : ByteArray := prog_9_method_49_code
def yX7_read : MethodName := ⟨RX7, "read", "()I"⟩
abbrev cX7_partMany : ByteArray := prog_9_method_50_code
def yX7_partMany : MethodName := ⟨RX7, "partMany", "(I)I"⟩
abbrev cX7_partForm : ByteArray := prog_9_method_51_code
def yX7_partForm : MethodName := ⟨RX7, "partForm", "(II)I"⟩
abbrev cX7_comes : ByteArray := prog_9_method_52_code
def yX7_comes : MethodName := ⟨RX7, "comes", "(I)I"⟩
abbrev cX7_addWish : ByteArray := prog_9_method_53_code
def yX7_addWish : MethodName := ⟨RX7, "addWish", "()I"⟩
abbrev cX7_allOf : ByteArray := prog_9_method_54_code
def yX7_allOf : MethodName := ⟨RX7, "allOf", "(I)I"⟩
abbrev cX7_join : ByteArray := prog_9_method_55_code
def yX7_join : MethodName := ⟨RX7, "join", "(IIZ)I"⟩
abbrev cX7_thereMany : ByteArray := prog_9_method_56_code
def yX7_thereMany : MethodName := ⟨RX7, "thereMany", "()I"⟩
abbrev cX7_removeWish : ByteArray := prog_9_method_57_code
def yX7_removeWish : MethodName := ⟨RX7, "removeWish", "(I)I"⟩
abbrev cX7_type : ByteArray := prog_9_method_58_code
def yX7_type : MethodName := ⟨RX7, "type", "(C)I"⟩
abbrev cX7_clearText : ByteArray := prog_9_method_59_code
def yX7_clearText : MethodName := ⟨RX7, "clearText", "()I"⟩
abbrev cX7_undo : ByteArray := prog_9_method_60_code
def yX7_undo : MethodName := ⟨RX7, "undo", "()I"⟩
abbrev cX7_keep : ByteArray := prog_9_method_61_code
def yX7_keep : MethodName := ⟨RX7, "keep", "()I"⟩
abbrev cX7_restore : ByteArray := prog_9_method_62_code
def yX7_restore : MethodName := ⟨RX7, "restore", "()I"⟩
abbrev cX7_areTrue : ByteArray := prog_9_method_63_code
def yX7_areTrue : MethodName := ⟨RX7, "areTrue", "(I)Z"⟩
abbrev cX7_sizes : ByteArray := prog_9_method_64_code
def yX7_sizes : MethodName := ⟨RX7, "sizes", "(I)I"⟩
abbrev cX7_wish : ByteArray := prog_9_method_65_code
def yX7_wish : MethodName := ⟨RX7, "wish", "(II)I"⟩
abbrev cX7_isPart : ByteArray := prog_9_method_66_code
def yX7_isPart : MethodName := ⟨RX7, "isPart", "(II)Z"⟩
abbrev cX7_letterOf : ByteArray := prog_9_method_67_code
def yX7_letterOf : MethodName := ⟨RX7, "letterOf", "(II)I"⟩
abbrev cX7_letter : ByteArray := prog_9_method_68_code
def yX7_letter : MethodName := ⟨RX7, "letter", "(III)I"⟩
abbrev cX7_signs : ByteArray := prog_9_method_69_code
def yX7_signs : MethodName := ⟨RX7, "signs", "(I)I"⟩
abbrev cX7_part : ByteArray := prog_9_method_70_code
def yX7_part : MethodName := ⟨RX7, "part", "(III)I"⟩
abbrev cX7_would : ByteArray := prog_9_method_71_code
def yX7_would : MethodName := ⟨RX7, "would", "(II)I"⟩
abbrev cX7_bears : ByteArray := prog_9_method_72_code
def yX7_bears : MethodName := ⟨RX7, "bears", "(II)I"⟩
abbrev cX7_isOpen : ByteArray := prog_9_method_73_code
def yX7_isOpen : MethodName := ⟨RX7, "isOpen", "(I)Z"⟩
abbrev cX7_open : ByteArray := prog_9_method_74_code
def yX7_open : MethodName := ⟨RX7, "open", "(I)I"⟩
abbrev cX7_at : ByteArray := prog_9_method_75_code
def yX7_at : MethodName := ⟨RX7, "at", "(I)I"⟩
abbrev cX7_wishesThat : ByteArray := prog_9_method_76_code
def yX7_wishesThat : MethodName := ⟨RX7, "wishesThat", "(I)I"⟩
abbrev cX7_count : ByteArray := prog_9_method_77_code
def yX7_count : MethodName := ⟨RX7, "count", "(I)I"⟩
def RL : String := "TimeWishesLaw"
abbrev cL_law : ByteArray := code
def yL_law : MethodName := ⟨RL, "law", "([I)Z"⟩
abbrev vwCl : List vw_C := [(RX0, TX0, 7), (RX1, TX1, 13), (RX2, TX2, 8), (RX3, TX3, 7), (RX4, TX4, 5), (RX5, TX5, 8), (RX6, TX6, 12), (RX7, TX7, 26)]
end
section
theorem dL_law_0 : decode cL_law 0 = .ok (.new 7, 3) := by decide +kernel
theorem dL_law_3 : decode cL_law 3 = .ok (.dup, 1) := by decide +kernel
theorem dL_law_4 : decode cL_law 4 = .ok (.invokespecial 9, 3) := by decide +kernel
theorem dL_law_7 : decode cL_law 7 = .ok (.astore_n 1, 1) := by decide +kernel
theorem dL_law_8 : decode cL_law 8 = .ok (.new 10, 3) := by decide +kernel
theorem dL_law_11 : decode cL_law 11 = .ok (.dup, 1) := by decide +kernel
theorem dL_law_12 : decode cL_law 12 = .ok (.invokespecial 12, 3) := by decide +kernel
theorem dL_law_15 : decode cL_law 15 = .ok (.astore_n 2, 1) := by decide +kernel
theorem dL_law_16 : decode cL_law 16 = .ok (.iconst 0, 1) := by decide +kernel
theorem dL_law_17 : decode cL_law 17 = .ok (.istore_n 3, 1) := by decide +kernel
theorem dL_law_18 : decode cL_law 18 = .ok (.iload_n 3, 1) := by decide +kernel
theorem dL_law_19 : decode cL_law 19 = .ok (.aload_n 0, 1) := by decide +kernel
theorem dL_law_20 : decode cL_law 20 = .ok (.arraylength, 1) := by decide +kernel
theorem dL_law_21 : decode cL_law 21 = .ok (.iconst 4, 1) := by decide +kernel
theorem dL_law_22 : decode cL_law 22 = .ok (.isub, 1) := by decide +kernel
theorem dL_law_23 : decode cL_law 23 = .ok (.if_icmp .gt 565, 3) := by decide +kernel
theorem dL_law_26 : decode cL_law 26 = .ok (.aload_n 0, 1) := by decide +kernel
theorem dL_law_27 : decode cL_law 27 = .ok (.iload_n 3, 1) := by decide +kernel
theorem dL_law_28 : decode cL_law 28 = .ok (.iaload, 1) := by decide +kernel
theorem dL_law_29 : decode cL_law 29 = .ok (.bipush 31, 2) := by decide +kernel
theorem dL_law_31 : decode cL_law 31 = .ok (.iand, 1) := by decide +kernel
theorem dL_law_32 : decode cL_law 32 = .ok (.tableswitch 550 0 17 #[88, 111, 124, 137, 196, 219, 244, 257, 270, 283, 296, 329, 372, 415, 448, 481, 504, 527], 88) := by decide +kernel
theorem dL_law_120 : decode cL_law 120 = .ok (.aload_n 1, 1) := by decide +kernel
theorem dL_law_121 : decode cL_law 121 = .ok (.aload_n 0, 1) := by decide +kernel
theorem dL_law_122 : decode cL_law 122 = .ok (.iload_n 3, 1) := by decide +kernel
theorem dL_law_123 : decode cL_law 123 = .ok (.iconst 1, 1) := by decide +kernel
theorem dL_law_124 : decode cL_law 124 = .ok (.iadd, 1) := by decide +kernel
theorem dL_law_125 : decode cL_law 125 = .ok (.iaload, 1) := by decide +kernel
theorem dL_law_126 : decode cL_law 126 = .ok (.invokevirtual 13, 3) := by decide +kernel
theorem dL_law_129 : decode cL_law 129 = .ok (.aload_n 2, 1) := by decide +kernel
theorem dL_law_130 : decode cL_law 130 = .ok (.aload_n 0, 1) := by decide +kernel
theorem dL_law_131 : decode cL_law 131 = .ok (.iload_n 3, 1) := by decide +kernel
theorem dL_law_132 : decode cL_law 132 = .ok (.iconst 1, 1) := by decide +kernel
theorem dL_law_133 : decode cL_law 133 = .ok (.iadd, 1) := by decide +kernel
theorem dL_law_134 : decode cL_law 134 = .ok (.iaload, 1) := by decide +kernel
theorem dL_law_135 : decode cL_law 135 = .ok (.invokevirtual 17, 3) := by decide +kernel
theorem dL_law_138 : decode cL_law 138 = .ok (.if_icmp .eq 444, 3) := by decide +kernel
theorem dL_law_141 : decode cL_law 141 = .ok (.iconst 0, 1) := by decide +kernel
theorem dL_law_142 : decode cL_law 142 = .ok (.ireturn, 1) := by decide +kernel
theorem dL_law_143 : decode cL_law 143 = .ok (.aload_n 1, 1) := by decide +kernel
theorem dL_law_144 : decode cL_law 144 = .ok (.invokevirtual 18, 3) := by decide +kernel
theorem dL_law_147 : decode cL_law 147 = .ok (.aload_n 2, 1) := by decide +kernel
theorem dL_law_148 : decode cL_law 148 = .ok (.invokevirtual 22, 3) := by decide +kernel
theorem dL_law_151 : decode cL_law 151 = .ok (.if_icmp .eq 431, 3) := by decide +kernel
theorem dL_law_154 : decode cL_law 154 = .ok (.iconst 0, 1) := by decide +kernel
theorem dL_law_155 : decode cL_law 155 = .ok (.ireturn, 1) := by decide +kernel
theorem dL_law_156 : decode cL_law 156 = .ok (.aload_n 1, 1) := by decide +kernel
theorem dL_law_157 : decode cL_law 157 = .ok (.invokevirtual 23, 3) := by decide +kernel
theorem dL_law_160 : decode cL_law 160 = .ok (.aload_n 2, 1) := by decide +kernel
theorem dL_law_161 : decode cL_law 161 = .ok (.invokevirtual 26, 3) := by decide +kernel
theorem dL_law_164 : decode cL_law 164 = .ok (.if_icmp .eq 418, 3) := by decide +kernel
theorem dL_law_167 : decode cL_law 167 = .ok (.iconst 0, 1) := by decide +kernel
theorem dL_law_168 : decode cL_law 168 = .ok (.ireturn, 1) := by decide +kernel
theorem dL_law_169 : decode cL_law 169 = .ok (.aload_n 1, 1) := by decide +kernel
theorem dL_law_170 : decode cL_law 170 = .ok (.aload_n 0, 1) := by decide +kernel
theorem dL_law_171 : decode cL_law 171 = .ok (.iload_n 3, 1) := by decide +kernel
theorem dL_law_172 : decode cL_law 172 = .ok (.iconst 1, 1) := by decide +kernel
theorem dL_law_173 : decode cL_law 173 = .ok (.iadd, 1) := by decide +kernel
theorem dL_law_174 : decode cL_law 174 = .ok (.iaload, 1) := by decide +kernel
theorem dL_law_175 : decode cL_law 175 = .ok (.aload_n 0, 1) := by decide +kernel
theorem dL_law_176 : decode cL_law 176 = .ok (.iload_n 3, 1) := by decide +kernel
theorem dL_law_177 : decode cL_law 177 = .ok (.iconst 2, 1) := by decide +kernel
theorem dL_law_178 : decode cL_law 178 = .ok (.iadd, 1) := by decide +kernel
theorem dL_law_179 : decode cL_law 179 = .ok (.iaload, 1) := by decide +kernel
theorem dL_law_180 : decode cL_law 180 = .ok (.aload_n 0, 1) := by decide +kernel
theorem dL_law_181 : decode cL_law 181 = .ok (.iload_n 3, 1) := by decide +kernel
theorem dL_law_182 : decode cL_law 182 = .ok (.iconst 3, 1) := by decide +kernel
theorem dL_law_183 : decode cL_law 183 = .ok (.iadd, 1) := by decide +kernel
theorem dL_law_184 : decode cL_law 184 = .ok (.iaload, 1) := by decide +kernel
theorem dL_law_185 : decode cL_law 185 = .ok (.ifCond .eq 7, 3) := by decide +kernel
theorem dL_law_188 : decode cL_law 188 = .ok (.iconst 1, 1) := by decide +kernel
theorem dL_law_189 : decode cL_law 189 = .ok (.goto 4, 3) := by decide +kernel
theorem dL_law_192 : decode cL_law 192 = .ok (.iconst 0, 1) := by decide +kernel
theorem dL_law_193 : decode cL_law 193 = .ok (.invokevirtual 27, 3) := by decide +kernel
theorem dL_law_196 : decode cL_law 196 = .ok (.aload_n 2, 1) := by decide +kernel
theorem dL_law_197 : decode cL_law 197 = .ok (.aload_n 0, 1) := by decide +kernel
theorem dL_law_198 : decode cL_law 198 = .ok (.iload_n 3, 1) := by decide +kernel
theorem dL_law_199 : decode cL_law 199 = .ok (.iconst 1, 1) := by decide +kernel
theorem dL_law_200 : decode cL_law 200 = .ok (.iadd, 1) := by decide +kernel
theorem dL_law_201 : decode cL_law 201 = .ok (.iaload, 1) := by decide +kernel
theorem dL_law_202 : decode cL_law 202 = .ok (.aload_n 0, 1) := by decide +kernel
theorem dL_law_203 : decode cL_law 203 = .ok (.iload_n 3, 1) := by decide +kernel
theorem dL_law_204 : decode cL_law 204 = .ok (.iconst 2, 1) := by decide +kernel
theorem dL_law_205 : decode cL_law 205 = .ok (.iadd, 1) := by decide +kernel
theorem dL_law_206 : decode cL_law 206 = .ok (.iaload, 1) := by decide +kernel
theorem dL_law_207 : decode cL_law 207 = .ok (.aload_n 0, 1) := by decide +kernel
theorem dL_law_208 : decode cL_law 208 = .ok (.iload_n 3, 1) := by decide +kernel
theorem dL_law_209 : decode cL_law 209 = .ok (.iconst 3, 1) := by decide +kernel
theorem dL_law_210 : decode cL_law 210 = .ok (.iadd, 1) := by decide +kernel
theorem dL_law_211 : decode cL_law 211 = .ok (.iaload, 1) := by decide +kernel
theorem dL_law_212 : decode cL_law 212 = .ok (.ifCond .eq 7, 3) := by decide +kernel
theorem dL_law_215 : decode cL_law 215 = .ok (.iconst 1, 1) := by decide +kernel
theorem dL_law_216 : decode cL_law 216 = .ok (.goto 4, 3) := by decide +kernel
theorem dL_law_219 : decode cL_law 219 = .ok (.iconst 0, 1) := by decide +kernel
theorem dL_law_220 : decode cL_law 220 = .ok (.invokevirtual 31, 3) := by decide +kernel
theorem dL_law_223 : decode cL_law 223 = .ok (.if_icmp .eq 359, 3) := by decide +kernel
theorem dL_law_226 : decode cL_law 226 = .ok (.iconst 0, 1) := by decide +kernel
theorem dL_law_227 : decode cL_law 227 = .ok (.ireturn, 1) := by decide +kernel
theorem dL_law_228 : decode cL_law 228 = .ok (.aload_n 1, 1) := by decide +kernel
theorem dL_law_229 : decode cL_law 229 = .ok (.aload_n 0, 1) := by decide +kernel
theorem dL_law_230 : decode cL_law 230 = .ok (.iload_n 3, 1) := by decide +kernel
theorem dL_law_231 : decode cL_law 231 = .ok (.iconst 1, 1) := by decide +kernel
theorem dL_law_232 : decode cL_law 232 = .ok (.iadd, 1) := by decide +kernel
theorem dL_law_233 : decode cL_law 233 = .ok (.iaload, 1) := by decide +kernel
theorem dL_law_234 : decode cL_law 234 = .ok (.invokevirtual 32, 3) := by decide +kernel
theorem dL_law_237 : decode cL_law 237 = .ok (.aload_n 2, 1) := by decide +kernel
theorem dL_law_238 : decode cL_law 238 = .ok (.aload_n 0, 1) := by decide +kernel
theorem dL_law_239 : decode cL_law 239 = .ok (.iload_n 3, 1) := by decide +kernel
theorem dL_law_240 : decode cL_law 240 = .ok (.iconst 1, 1) := by decide +kernel
theorem dL_law_241 : decode cL_law 241 = .ok (.iadd, 1) := by decide +kernel
theorem dL_law_242 : decode cL_law 242 = .ok (.iaload, 1) := by decide +kernel
theorem dL_law_243 : decode cL_law 243 = .ok (.invokevirtual 35, 3) := by decide +kernel
theorem dL_law_246 : decode cL_law 246 = .ok (.if_icmp .eq 336, 3) := by decide +kernel
theorem dL_law_249 : decode cL_law 249 = .ok (.iconst 0, 1) := by decide +kernel
theorem dL_law_250 : decode cL_law 250 = .ok (.ireturn, 1) := by decide +kernel
theorem dL_law_251 : decode cL_law 251 = .ok (.aload_n 1, 1) := by decide +kernel
theorem dL_law_252 : decode cL_law 252 = .ok (.aload_n 0, 1) := by decide +kernel
theorem dL_law_253 : decode cL_law 253 = .ok (.iload_n 3, 1) := by decide +kernel
theorem dL_law_254 : decode cL_law 254 = .ok (.iconst 1, 1) := by decide +kernel
theorem dL_law_255 : decode cL_law 255 = .ok (.iadd, 1) := by decide +kernel
theorem dL_law_256 : decode cL_law 256 = .ok (.iaload, 1) := by decide +kernel
theorem dL_law_257 : decode cL_law 257 = .ok (.i2c, 1) := by decide +kernel
theorem dL_law_258 : decode cL_law 258 = .ok (.invokevirtual 36, 3) := by decide +kernel
theorem dL_law_261 : decode cL_law 261 = .ok (.aload_n 2, 1) := by decide +kernel
theorem dL_law_262 : decode cL_law 262 = .ok (.aload_n 0, 1) := by decide +kernel
theorem dL_law_263 : decode cL_law 263 = .ok (.iload_n 3, 1) := by decide +kernel
theorem dL_law_264 : decode cL_law 264 = .ok (.iconst 1, 1) := by decide +kernel
theorem dL_law_265 : decode cL_law 265 = .ok (.iadd, 1) := by decide +kernel
theorem dL_law_266 : decode cL_law 266 = .ok (.iaload, 1) := by decide +kernel
theorem dL_law_267 : decode cL_law 267 = .ok (.i2c, 1) := by decide +kernel
theorem dL_law_268 : decode cL_law 268 = .ok (.invokevirtual 40, 3) := by decide +kernel
theorem dL_law_271 : decode cL_law 271 = .ok (.if_icmp .eq 311, 3) := by decide +kernel
theorem dL_law_274 : decode cL_law 274 = .ok (.iconst 0, 1) := by decide +kernel
theorem dL_law_275 : decode cL_law 275 = .ok (.ireturn, 1) := by decide +kernel
theorem dL_law_276 : decode cL_law 276 = .ok (.aload_n 1, 1) := by decide +kernel
theorem dL_law_277 : decode cL_law 277 = .ok (.invokevirtual 41, 3) := by decide +kernel
theorem dL_law_280 : decode cL_law 280 = .ok (.aload_n 2, 1) := by decide +kernel
theorem dL_law_281 : decode cL_law 281 = .ok (.invokevirtual 44, 3) := by decide +kernel
theorem dL_law_284 : decode cL_law 284 = .ok (.if_icmp .eq 298, 3) := by decide +kernel
theorem dL_law_287 : decode cL_law 287 = .ok (.iconst 0, 1) := by decide +kernel
theorem dL_law_288 : decode cL_law 288 = .ok (.ireturn, 1) := by decide +kernel
theorem dL_law_289 : decode cL_law 289 = .ok (.aload_n 1, 1) := by decide +kernel
theorem dL_law_290 : decode cL_law 290 = .ok (.invokevirtual 45, 3) := by decide +kernel
theorem dL_law_293 : decode cL_law 293 = .ok (.aload_n 2, 1) := by decide +kernel
theorem dL_law_294 : decode cL_law 294 = .ok (.invokevirtual 48, 3) := by decide +kernel
theorem dL_law_297 : decode cL_law 297 = .ok (.if_icmp .eq 285, 3) := by decide +kernel
theorem dL_law_300 : decode cL_law 300 = .ok (.iconst 0, 1) := by decide +kernel
theorem dL_law_301 : decode cL_law 301 = .ok (.ireturn, 1) := by decide +kernel
theorem dL_law_302 : decode cL_law 302 = .ok (.aload_n 1, 1) := by decide +kernel
theorem dL_law_303 : decode cL_law 303 = .ok (.invokevirtual 49, 3) := by decide +kernel
theorem dL_law_306 : decode cL_law 306 = .ok (.aload_n 2, 1) := by decide +kernel
theorem dL_law_307 : decode cL_law 307 = .ok (.invokevirtual 52, 3) := by decide +kernel
theorem dL_law_310 : decode cL_law 310 = .ok (.if_icmp .eq 272, 3) := by decide +kernel
theorem dL_law_313 : decode cL_law 313 = .ok (.iconst 0, 1) := by decide +kernel
theorem dL_law_314 : decode cL_law 314 = .ok (.ireturn, 1) := by decide +kernel
theorem dL_law_315 : decode cL_law 315 = .ok (.aload_n 1, 1) := by decide +kernel
theorem dL_law_316 : decode cL_law 316 = .ok (.invokevirtual 53, 3) := by decide +kernel
theorem dL_law_319 : decode cL_law 319 = .ok (.aload_n 2, 1) := by decide +kernel
theorem dL_law_320 : decode cL_law 320 = .ok (.invokevirtual 56, 3) := by decide +kernel
theorem dL_law_323 : decode cL_law 323 = .ok (.if_icmp .eq 259, 3) := by decide +kernel
theorem dL_law_326 : decode cL_law 326 = .ok (.iconst 0, 1) := by decide +kernel
theorem dL_law_327 : decode cL_law 327 = .ok (.ireturn, 1) := by decide +kernel
theorem dL_law_328 : decode cL_law 328 = .ok (.aload_n 1, 1) := by decide +kernel
theorem dL_law_329 : decode cL_law 329 = .ok (.aload_n 0, 1) := by decide +kernel
theorem dL_law_330 : decode cL_law 330 = .ok (.iload_n 3, 1) := by decide +kernel
theorem dL_law_331 : decode cL_law 331 = .ok (.iconst 1, 1) := by decide +kernel
theorem dL_law_332 : decode cL_law 332 = .ok (.iadd, 1) := by decide +kernel
theorem dL_law_333 : decode cL_law 333 = .ok (.iaload, 1) := by decide +kernel
theorem dL_law_334 : decode cL_law 334 = .ok (.aload_n 0, 1) := by decide +kernel
theorem dL_law_335 : decode cL_law 335 = .ok (.iload_n 3, 1) := by decide +kernel
theorem dL_law_336 : decode cL_law 336 = .ok (.iconst 2, 1) := by decide +kernel
theorem dL_law_337 : decode cL_law 337 = .ok (.iadd, 1) := by decide +kernel
theorem dL_law_338 : decode cL_law 338 = .ok (.iaload, 1) := by decide +kernel
theorem dL_law_339 : decode cL_law 339 = .ok (.invokevirtual 57, 3) := by decide +kernel
theorem dL_law_342 : decode cL_law 342 = .ok (.aload_n 2, 1) := by decide +kernel
theorem dL_law_343 : decode cL_law 343 = .ok (.aload_n 0, 1) := by decide +kernel
theorem dL_law_344 : decode cL_law 344 = .ok (.iload_n 3, 1) := by decide +kernel
theorem dL_law_345 : decode cL_law 345 = .ok (.iconst 1, 1) := by decide +kernel
theorem dL_law_346 : decode cL_law 346 = .ok (.iadd, 1) := by decide +kernel
theorem dL_law_347 : decode cL_law 347 = .ok (.iaload, 1) := by decide +kernel
theorem dL_law_348 : decode cL_law 348 = .ok (.aload_n 0, 1) := by decide +kernel
theorem dL_law_349 : decode cL_law 349 = .ok (.iload_n 3, 1) := by decide +kernel
theorem dL_law_350 : decode cL_law 350 = .ok (.iconst 2, 1) := by decide +kernel
theorem dL_law_351 : decode cL_law 351 = .ok (.iadd, 1) := by decide +kernel
theorem dL_law_352 : decode cL_law 352 = .ok (.iaload, 1) := by decide +kernel
theorem dL_law_353 : decode cL_law 353 = .ok (.invokevirtual 61, 3) := by decide +kernel
theorem dL_law_356 : decode cL_law 356 = .ok (.if_icmp .eq 226, 3) := by decide +kernel
theorem dL_law_359 : decode cL_law 359 = .ok (.iconst 0, 1) := by decide +kernel
theorem dL_law_360 : decode cL_law 360 = .ok (.ireturn, 1) := by decide +kernel
theorem dL_law_361 : decode cL_law 361 = .ok (.aload_n 1, 1) := by decide +kernel
theorem dL_law_362 : decode cL_law 362 = .ok (.aload_n 0, 1) := by decide +kernel
theorem dL_law_363 : decode cL_law 363 = .ok (.iload_n 3, 1) := by decide +kernel
theorem dL_law_364 : decode cL_law 364 = .ok (.iconst 1, 1) := by decide +kernel
theorem dL_law_365 : decode cL_law 365 = .ok (.iadd, 1) := by decide +kernel
theorem dL_law_366 : decode cL_law 366 = .ok (.iaload, 1) := by decide +kernel
theorem dL_law_367 : decode cL_law 367 = .ok (.aload_n 0, 1) := by decide +kernel
theorem dL_law_368 : decode cL_law 368 = .ok (.iload_n 3, 1) := by decide +kernel
theorem dL_law_369 : decode cL_law 369 = .ok (.iconst 2, 1) := by decide +kernel
theorem dL_law_370 : decode cL_law 370 = .ok (.iadd, 1) := by decide +kernel
theorem dL_law_371 : decode cL_law 371 = .ok (.iaload, 1) := by decide +kernel
theorem dL_law_372 : decode cL_law 372 = .ok (.aload_n 0, 1) := by decide +kernel
theorem dL_law_373 : decode cL_law 373 = .ok (.iload_n 3, 1) := by decide +kernel
theorem dL_law_374 : decode cL_law 374 = .ok (.iconst 3, 1) := by decide +kernel
theorem dL_law_375 : decode cL_law 375 = .ok (.iadd, 1) := by decide +kernel
theorem dL_law_376 : decode cL_law 376 = .ok (.iaload, 1) := by decide +kernel
theorem dL_law_377 : decode cL_law 377 = .ok (.invokevirtual 62, 3) := by decide +kernel
theorem dL_law_380 : decode cL_law 380 = .ok (.aload_n 2, 1) := by decide +kernel
theorem dL_law_381 : decode cL_law 381 = .ok (.aload_n 0, 1) := by decide +kernel
theorem dL_law_382 : decode cL_law 382 = .ok (.iload_n 3, 1) := by decide +kernel
theorem dL_law_383 : decode cL_law 383 = .ok (.iconst 1, 1) := by decide +kernel
theorem dL_law_384 : decode cL_law 384 = .ok (.iadd, 1) := by decide +kernel
theorem dL_law_385 : decode cL_law 385 = .ok (.iaload, 1) := by decide +kernel
theorem dL_law_386 : decode cL_law 386 = .ok (.aload_n 0, 1) := by decide +kernel
theorem dL_law_387 : decode cL_law 387 = .ok (.iload_n 3, 1) := by decide +kernel
theorem dL_law_388 : decode cL_law 388 = .ok (.iconst 2, 1) := by decide +kernel
theorem dL_law_389 : decode cL_law 389 = .ok (.iadd, 1) := by decide +kernel
theorem dL_law_390 : decode cL_law 390 = .ok (.iaload, 1) := by decide +kernel
theorem dL_law_391 : decode cL_law 391 = .ok (.aload_n 0, 1) := by decide +kernel
theorem dL_law_392 : decode cL_law 392 = .ok (.iload_n 3, 1) := by decide +kernel
theorem dL_law_393 : decode cL_law 393 = .ok (.iconst 3, 1) := by decide +kernel
theorem dL_law_394 : decode cL_law 394 = .ok (.iadd, 1) := by decide +kernel
theorem dL_law_395 : decode cL_law 395 = .ok (.iaload, 1) := by decide +kernel
theorem dL_law_396 : decode cL_law 396 = .ok (.invokevirtual 66, 3) := by decide +kernel
theorem dL_law_399 : decode cL_law 399 = .ok (.if_icmp .eq 183, 3) := by decide +kernel
theorem dL_law_402 : decode cL_law 402 = .ok (.iconst 0, 1) := by decide +kernel
theorem dL_law_403 : decode cL_law 403 = .ok (.ireturn, 1) := by decide +kernel
theorem dL_law_404 : decode cL_law 404 = .ok (.aload_n 1, 1) := by decide +kernel
theorem dL_law_405 : decode cL_law 405 = .ok (.aload_n 0, 1) := by decide +kernel
theorem dL_law_406 : decode cL_law 406 = .ok (.iload_n 3, 1) := by decide +kernel
theorem dL_law_407 : decode cL_law 407 = .ok (.iconst 1, 1) := by decide +kernel
theorem dL_law_408 : decode cL_law 408 = .ok (.iadd, 1) := by decide +kernel
theorem dL_law_409 : decode cL_law 409 = .ok (.iaload, 1) := by decide +kernel
theorem dL_law_410 : decode cL_law 410 = .ok (.aload_n 0, 1) := by decide +kernel
theorem dL_law_411 : decode cL_law 411 = .ok (.iload_n 3, 1) := by decide +kernel
theorem dL_law_412 : decode cL_law 412 = .ok (.iconst 2, 1) := by decide +kernel
theorem dL_law_413 : decode cL_law 413 = .ok (.iadd, 1) := by decide +kernel
theorem dL_law_414 : decode cL_law 414 = .ok (.iaload, 1) := by decide +kernel
theorem dL_law_415 : decode cL_law 415 = .ok (.aload_n 0, 1) := by decide +kernel
theorem dL_law_416 : decode cL_law 416 = .ok (.iload_n 3, 1) := by decide +kernel
theorem dL_law_417 : decode cL_law 417 = .ok (.iconst 3, 1) := by decide +kernel
theorem dL_law_418 : decode cL_law 418 = .ok (.iadd, 1) := by decide +kernel
theorem dL_law_419 : decode cL_law 419 = .ok (.iaload, 1) := by decide +kernel
theorem dL_law_420 : decode cL_law 420 = .ok (.invokevirtual 67, 3) := by decide +kernel
theorem dL_law_423 : decode cL_law 423 = .ok (.aload_n 2, 1) := by decide +kernel
theorem dL_law_424 : decode cL_law 424 = .ok (.aload_n 0, 1) := by decide +kernel
theorem dL_law_425 : decode cL_law 425 = .ok (.iload_n 3, 1) := by decide +kernel
theorem dL_law_426 : decode cL_law 426 = .ok (.iconst 1, 1) := by decide +kernel
theorem dL_law_427 : decode cL_law 427 = .ok (.iadd, 1) := by decide +kernel
theorem dL_law_428 : decode cL_law 428 = .ok (.iaload, 1) := by decide +kernel
theorem dL_law_429 : decode cL_law 429 = .ok (.aload_n 0, 1) := by decide +kernel
theorem dL_law_430 : decode cL_law 430 = .ok (.iload_n 3, 1) := by decide +kernel
theorem dL_law_431 : decode cL_law 431 = .ok (.iconst 2, 1) := by decide +kernel
theorem dL_law_432 : decode cL_law 432 = .ok (.iadd, 1) := by decide +kernel
theorem dL_law_433 : decode cL_law 433 = .ok (.iaload, 1) := by decide +kernel
theorem dL_law_434 : decode cL_law 434 = .ok (.aload_n 0, 1) := by decide +kernel
theorem dL_law_435 : decode cL_law 435 = .ok (.iload_n 3, 1) := by decide +kernel
theorem dL_law_436 : decode cL_law 436 = .ok (.iconst 3, 1) := by decide +kernel
theorem dL_law_437 : decode cL_law 437 = .ok (.iadd, 1) := by decide +kernel
theorem dL_law_438 : decode cL_law 438 = .ok (.iaload, 1) := by decide +kernel
theorem dL_law_439 : decode cL_law 439 = .ok (.invokevirtual 70, 3) := by decide +kernel
theorem dL_law_442 : decode cL_law 442 = .ok (.if_icmp .eq 140, 3) := by decide +kernel
theorem dL_law_445 : decode cL_law 445 = .ok (.iconst 0, 1) := by decide +kernel
theorem dL_law_446 : decode cL_law 446 = .ok (.ireturn, 1) := by decide +kernel
theorem dL_law_447 : decode cL_law 447 = .ok (.aload_n 1, 1) := by decide +kernel
theorem dL_law_448 : decode cL_law 448 = .ok (.aload_n 0, 1) := by decide +kernel
theorem dL_law_449 : decode cL_law 449 = .ok (.iload_n 3, 1) := by decide +kernel
theorem dL_law_450 : decode cL_law 450 = .ok (.iconst 1, 1) := by decide +kernel
theorem dL_law_451 : decode cL_law 451 = .ok (.iadd, 1) := by decide +kernel
theorem dL_law_452 : decode cL_law 452 = .ok (.iaload, 1) := by decide +kernel
theorem dL_law_453 : decode cL_law 453 = .ok (.aload_n 0, 1) := by decide +kernel
theorem dL_law_454 : decode cL_law 454 = .ok (.iload_n 3, 1) := by decide +kernel
theorem dL_law_455 : decode cL_law 455 = .ok (.iconst 2, 1) := by decide +kernel
theorem dL_law_456 : decode cL_law 456 = .ok (.iadd, 1) := by decide +kernel
theorem dL_law_457 : decode cL_law 457 = .ok (.iaload, 1) := by decide +kernel
theorem dL_law_458 : decode cL_law 458 = .ok (.invokevirtual 71, 3) := by decide +kernel
theorem dL_law_461 : decode cL_law 461 = .ok (.aload_n 2, 1) := by decide +kernel
theorem dL_law_462 : decode cL_law 462 = .ok (.aload_n 0, 1) := by decide +kernel
theorem dL_law_463 : decode cL_law 463 = .ok (.iload_n 3, 1) := by decide +kernel
theorem dL_law_464 : decode cL_law 464 = .ok (.iconst 1, 1) := by decide +kernel
theorem dL_law_465 : decode cL_law 465 = .ok (.iadd, 1) := by decide +kernel
theorem dL_law_466 : decode cL_law 466 = .ok (.iaload, 1) := by decide +kernel
theorem dL_law_467 : decode cL_law 467 = .ok (.aload_n 0, 1) := by decide +kernel
theorem dL_law_468 : decode cL_law 468 = .ok (.iload_n 3, 1) := by decide +kernel
theorem dL_law_469 : decode cL_law 469 = .ok (.iconst 2, 1) := by decide +kernel
theorem dL_law_470 : decode cL_law 470 = .ok (.iadd, 1) := by decide +kernel
theorem dL_law_471 : decode cL_law 471 = .ok (.iaload, 1) := by decide +kernel
theorem dL_law_472 : decode cL_law 472 = .ok (.invokevirtual 74, 3) := by decide +kernel
theorem dL_law_475 : decode cL_law 475 = .ok (.if_icmp .eq 107, 3) := by decide +kernel
theorem dL_law_478 : decode cL_law 478 = .ok (.iconst 0, 1) := by decide +kernel
theorem dL_law_479 : decode cL_law 479 = .ok (.ireturn, 1) := by decide +kernel
theorem dL_law_480 : decode cL_law 480 = .ok (.aload_n 1, 1) := by decide +kernel
theorem dL_law_481 : decode cL_law 481 = .ok (.aload_n 0, 1) := by decide +kernel
theorem dL_law_482 : decode cL_law 482 = .ok (.iload_n 3, 1) := by decide +kernel
theorem dL_law_483 : decode cL_law 483 = .ok (.iconst 1, 1) := by decide +kernel
theorem dL_law_484 : decode cL_law 484 = .ok (.iadd, 1) := by decide +kernel
theorem dL_law_485 : decode cL_law 485 = .ok (.iaload, 1) := by decide +kernel
theorem dL_law_486 : decode cL_law 486 = .ok (.aload_n 0, 1) := by decide +kernel
theorem dL_law_487 : decode cL_law 487 = .ok (.iload_n 3, 1) := by decide +kernel
theorem dL_law_488 : decode cL_law 488 = .ok (.iconst 2, 1) := by decide +kernel
theorem dL_law_489 : decode cL_law 489 = .ok (.iadd, 1) := by decide +kernel
theorem dL_law_490 : decode cL_law 490 = .ok (.iaload, 1) := by decide +kernel
theorem dL_law_491 : decode cL_law 491 = .ok (.invokevirtual 75, 3) := by decide +kernel
theorem dL_law_494 : decode cL_law 494 = .ok (.aload_n 2, 1) := by decide +kernel
theorem dL_law_495 : decode cL_law 495 = .ok (.aload_n 0, 1) := by decide +kernel
theorem dL_law_496 : decode cL_law 496 = .ok (.iload_n 3, 1) := by decide +kernel
theorem dL_law_497 : decode cL_law 497 = .ok (.iconst 1, 1) := by decide +kernel
theorem dL_law_498 : decode cL_law 498 = .ok (.iadd, 1) := by decide +kernel
theorem dL_law_499 : decode cL_law 499 = .ok (.iaload, 1) := by decide +kernel
theorem dL_law_500 : decode cL_law 500 = .ok (.aload_n 0, 1) := by decide +kernel
theorem dL_law_501 : decode cL_law 501 = .ok (.iload_n 3, 1) := by decide +kernel
theorem dL_law_502 : decode cL_law 502 = .ok (.iconst 2, 1) := by decide +kernel
theorem dL_law_503 : decode cL_law 503 = .ok (.iadd, 1) := by decide +kernel
theorem dL_law_504 : decode cL_law 504 = .ok (.iaload, 1) := by decide +kernel
theorem dL_law_505 : decode cL_law 505 = .ok (.invokevirtual 78, 3) := by decide +kernel
theorem dL_law_508 : decode cL_law 508 = .ok (.if_icmp .eq 74, 3) := by decide +kernel
theorem dL_law_511 : decode cL_law 511 = .ok (.iconst 0, 1) := by decide +kernel
theorem dL_law_512 : decode cL_law 512 = .ok (.ireturn, 1) := by decide +kernel
theorem dL_law_513 : decode cL_law 513 = .ok (.aload_n 1, 1) := by decide +kernel
theorem dL_law_514 : decode cL_law 514 = .ok (.aload_n 0, 1) := by decide +kernel
theorem dL_law_515 : decode cL_law 515 = .ok (.iload_n 3, 1) := by decide +kernel
theorem dL_law_516 : decode cL_law 516 = .ok (.iconst 1, 1) := by decide +kernel
theorem dL_law_517 : decode cL_law 517 = .ok (.iadd, 1) := by decide +kernel
theorem dL_law_518 : decode cL_law 518 = .ok (.iaload, 1) := by decide +kernel
theorem dL_law_519 : decode cL_law 519 = .ok (.invokevirtual 79, 3) := by decide +kernel
theorem dL_law_522 : decode cL_law 522 = .ok (.aload_n 2, 1) := by decide +kernel
theorem dL_law_523 : decode cL_law 523 = .ok (.aload_n 0, 1) := by decide +kernel
theorem dL_law_524 : decode cL_law 524 = .ok (.iload_n 3, 1) := by decide +kernel
theorem dL_law_525 : decode cL_law 525 = .ok (.iconst 1, 1) := by decide +kernel
theorem dL_law_526 : decode cL_law 526 = .ok (.iadd, 1) := by decide +kernel
theorem dL_law_527 : decode cL_law 527 = .ok (.iaload, 1) := by decide +kernel
theorem dL_law_528 : decode cL_law 528 = .ok (.invokevirtual 82, 3) := by decide +kernel
theorem dL_law_531 : decode cL_law 531 = .ok (.if_icmp .eq 51, 3) := by decide +kernel
theorem dL_law_534 : decode cL_law 534 = .ok (.iconst 0, 1) := by decide +kernel
theorem dL_law_535 : decode cL_law 535 = .ok (.ireturn, 1) := by decide +kernel
theorem dL_law_536 : decode cL_law 536 = .ok (.aload_n 1, 1) := by decide +kernel
theorem dL_law_537 : decode cL_law 537 = .ok (.aload_n 0, 1) := by decide +kernel
theorem dL_law_538 : decode cL_law 538 = .ok (.iload_n 3, 1) := by decide +kernel
theorem dL_law_539 : decode cL_law 539 = .ok (.iconst 1, 1) := by decide +kernel
theorem dL_law_540 : decode cL_law 540 = .ok (.iadd, 1) := by decide +kernel
theorem dL_law_541 : decode cL_law 541 = .ok (.iaload, 1) := by decide +kernel
theorem dL_law_542 : decode cL_law 542 = .ok (.invokevirtual 83, 3) := by decide +kernel
theorem dL_law_545 : decode cL_law 545 = .ok (.aload_n 2, 1) := by decide +kernel
theorem dL_law_546 : decode cL_law 546 = .ok (.aload_n 0, 1) := by decide +kernel
theorem dL_law_547 : decode cL_law 547 = .ok (.iload_n 3, 1) := by decide +kernel
theorem dL_law_548 : decode cL_law 548 = .ok (.iconst 1, 1) := by decide +kernel
theorem dL_law_549 : decode cL_law 549 = .ok (.iadd, 1) := by decide +kernel
theorem dL_law_550 : decode cL_law 550 = .ok (.iaload, 1) := by decide +kernel
theorem dL_law_551 : decode cL_law 551 = .ok (.invokevirtual 86, 3) := by decide +kernel
theorem dL_law_554 : decode cL_law 554 = .ok (.if_icmp .eq 28, 3) := by decide +kernel
theorem dL_law_557 : decode cL_law 557 = .ok (.iconst 0, 1) := by decide +kernel
theorem dL_law_558 : decode cL_law 558 = .ok (.ireturn, 1) := by decide +kernel
theorem dL_law_559 : decode cL_law 559 = .ok (.aload_n 1, 1) := by decide +kernel
theorem dL_law_560 : decode cL_law 560 = .ok (.aload_n 0, 1) := by decide +kernel
theorem dL_law_561 : decode cL_law 561 = .ok (.iload_n 3, 1) := by decide +kernel
theorem dL_law_562 : decode cL_law 562 = .ok (.iconst 1, 1) := by decide +kernel
theorem dL_law_563 : decode cL_law 563 = .ok (.iadd, 1) := by decide +kernel
theorem dL_law_564 : decode cL_law 564 = .ok (.iaload, 1) := by decide +kernel
theorem dL_law_565 : decode cL_law 565 = .ok (.invokevirtual 87, 3) := by decide +kernel
theorem dL_law_568 : decode cL_law 568 = .ok (.aload_n 2, 1) := by decide +kernel
theorem dL_law_569 : decode cL_law 569 = .ok (.aload_n 0, 1) := by decide +kernel
theorem dL_law_570 : decode cL_law 570 = .ok (.iload_n 3, 1) := by decide +kernel
theorem dL_law_571 : decode cL_law 571 = .ok (.iconst 1, 1) := by decide +kernel
theorem dL_law_572 : decode cL_law 572 = .ok (.iadd, 1) := by decide +kernel
theorem dL_law_573 : decode cL_law 573 = .ok (.iaload, 1) := by decide +kernel
theorem dL_law_574 : decode cL_law 574 = .ok (.invokevirtual 90, 3) := by decide +kernel
theorem dL_law_577 : decode cL_law 577 = .ok (.if_icmp .eq 5, 3) := by decide +kernel
theorem dL_law_580 : decode cL_law 580 = .ok (.iconst 0, 1) := by decide +kernel
theorem dL_law_581 : decode cL_law 581 = .ok (.ireturn, 1) := by decide +kernel
theorem dL_law_582 : decode cL_law 582 = .ok (.iinc 3 4, 3) := by decide +kernel
theorem dL_law_585 : decode cL_law 585 = .ok (.goto (-567), 3) := by decide +kernel
theorem dL_law_588 : decode cL_law 588 = .ok (.iconst 1, 1) := by decide +kernel
theorem dL_law_589 : decode cL_law 589 = .ok (.ireturn, 1) := by decide +kernel
theorem dX0_init_0 : decode cX0_init 0 = .ok (.aload_n 0, 1) := by decide +kernel
theorem dX0_init_1 : decode cX0_init 1 = .ok (.invokespecial 3, 3) := by decide +kernel
theorem dX0_init_4 : decode cX0_init 4 = .ok (.aload_n 0, 1) := by decide +kernel
theorem dX0_init_5 : decode cX0_init 5 = .ok (.sipush 2048, 3) := by decide +kernel
theorem dX0_init_8 : decode cX0_init 8 = .ok (.newarray .int, 2) := by decide +kernel
theorem dX0_init_10 : decode cX0_init 10 = .ok (.putfield 9, 3) := by decide +kernel
theorem dX0_init_13 : decode cX0_init 13 = .ok (.aload_n 0, 1) := by decide +kernel
theorem dX0_init_14 : decode cX0_init 14 = .ok (.sipush 2048, 3) := by decide +kernel
theorem dX0_init_17 : decode cX0_init 17 = .ok (.newarray .int, 2) := by decide +kernel
theorem dX0_init_19 : decode cX0_init 19 = .ok (.putfield 15, 3) := by decide +kernel
theorem dX0_init_22 : decode cX0_init 22 = .ok (.aload_n 0, 1) := by decide +kernel
theorem dX0_init_23 : decode cX0_init 23 = .ok (.iconst 2, 1) := by decide +kernel
theorem dX0_init_24 : decode cX0_init 24 = .ok (.newarray .int, 2) := by decide +kernel
theorem dX0_init_26 : decode cX0_init 26 = .ok (.putfield 18, 3) := by decide +kernel
theorem dX0_init_29 : decode cX0_init 29 = .ok (.aload_n 0, 1) := by decide +kernel
theorem dX0_init_30 : decode cX0_init 30 = .ok (.aload_n 1, 1) := by decide +kernel
theorem dX0_init_31 : decode cX0_init 31 = .ok (.putfield 21, 3) := by decide +kernel
theorem dX0_init_34 : decode cX0_init 34 = .ok (.return_, 1) := by decide +kernel
theorem dX0_begin_0 : decode cX0_begin 0 = .ok (.aload_n 0, 1) := by decide +kernel
theorem dX0_begin_1 : decode cX0_begin 1 = .ok (.iload_n 1, 1) := by decide +kernel
theorem dX0_begin_2 : decode cX0_begin 2 = .ok (.putfield 25, 3) := by decide +kernel
theorem dX0_begin_5 : decode cX0_begin 5 = .ok (.aload_n 0, 1) := by decide +kernel
theorem dX0_begin_6 : decode cX0_begin 6 = .ok (.iconst 0, 1) := by decide +kernel
theorem dX0_begin_7 : decode cX0_begin 7 = .ok (.putfield 29, 3) := by decide +kernel
theorem dX0_begin_10 : decode cX0_begin 10 = .ok (.aload_n 0, 1) := by decide +kernel
theorem dX0_begin_11 : decode cX0_begin 11 = .ok (.iconst 0, 1) := by decide +kernel
theorem dX0_begin_12 : decode cX0_begin 12 = .ok (.putfield 32, 3) := by decide +kernel
theorem dX0_begin_15 : decode cX0_begin 15 = .ok (.return_, 1) := by decide +kernel
theorem dX0_put_0 : decode cX0_put 0 = .ok (.aload_n 0, 1) := by decide +kernel
theorem dX0_put_1 : decode cX0_put 1 = .ok (.getfield 21, 3) := by decide +kernel
theorem dX0_put_4 : decode cX0_put 4 = .ok (.getfield 35, 3) := by decide +kernel
theorem dX0_put_7 : decode cX0_put 7 = .ok (.iload_n 1, 1) := by decide +kernel
theorem dX0_put_8 : decode cX0_put 8 = .ok (.iaload, 1) := by decide +kernel
theorem dX0_put_9 : decode cX0_put 9 = .ok (.aload_n 0, 1) := by decide +kernel
theorem dX0_put_10 : decode cX0_put 10 = .ok (.getfield 25, 3) := by decide +kernel
theorem dX0_put_13 : decode cX0_put 13 = .ok (.if_icmp .ne 7, 3) := by decide +kernel
theorem dX0_put_16 : decode cX0_put 16 = .ok (.iconst 1, 1) := by decide +kernel
theorem dX0_put_17 : decode cX0_put 17 = .ok (.goto 4, 3) := by decide +kernel
theorem dX0_put_20 : decode cX0_put 20 = .ok (.iconst 0, 1) := by decide +kernel
theorem dX0_put_21 : decode cX0_put 21 = .ok (.istore_n 2, 1) := by decide +kernel
theorem dX0_put_22 : decode cX0_put 22 = .ok (.iload_n 2, 1) := by decide +kernel
theorem dX0_put_23 : decode cX0_put 23 = .ok (.ifCond .eq 15, 3) := by decide +kernel
theorem dX0_put_26 : decode cX0_put 26 = .ok (.aload_n 0, 1) := by decide +kernel
theorem dX0_put_27 : decode cX0_put 27 = .ok (.getfield 21, 3) := by decide +kernel
theorem dX0_put_30 : decode cX0_put 30 = .ok (.getfield 40, 3) := by decide +kernel
theorem dX0_put_33 : decode cX0_put 33 = .ok (.iload_n 1, 1) := by decide +kernel
theorem dX0_put_34 : decode cX0_put 34 = .ok (.iaload, 1) := by decide +kernel
theorem dX0_put_35 : decode cX0_put 35 = .ok (.goto 4, 3) := by decide +kernel
theorem dX0_put_38 : decode cX0_put 38 = .ok (.iconst 1, 1) := by decide +kernel
theorem dX0_put_39 : decode cX0_put 39 = .ok (.istore_n 3, 1) := by decide +kernel
theorem dX0_put_40 : decode cX0_put 40 = .ok (.iconst 0, 1) := by decide +kernel
theorem dX0_put_41 : decode cX0_put 41 = .ok (.istore 4, 2) := by decide +kernel
theorem dX0_put_43 : decode cX0_put 43 = .ok (.iload 4, 2) := by decide +kernel
theorem dX0_put_45 : decode cX0_put 45 = .ok (.iload_n 3, 1) := by decide +kernel
theorem dX0_put_46 : decode cX0_put 46 = .ok (.if_icmp .ge 180, 3) := by decide +kernel
theorem dX0_put_49 : decode cX0_put 49 = .ok (.iload_n 2, 1) := by decide +kernel
theorem dX0_put_50 : decode cX0_put 50 = .ok (.ifCond .eq 16, 3) := by decide +kernel
theorem dX0_put_53 : decode cX0_put 53 = .ok (.aload_n 0, 1) := by decide +kernel
theorem dX0_put_54 : decode cX0_put 54 = .ok (.getfield 21, 3) := by decide +kernel
theorem dX0_put_57 : decode cX0_put 57 = .ok (.iload_n 1, 1) := by decide +kernel
theorem dX0_put_58 : decode cX0_put 58 = .ok (.iload 4, 2) := by decide +kernel
theorem dX0_put_60 : decode cX0_put 60 = .ok (.invokevirtual 43, 3) := by decide +kernel
theorem dX0_put_63 : decode cX0_put 63 = .ok (.goto 4, 3) := by decide +kernel
theorem dX0_put_66 : decode cX0_put 66 = .ok (.iload_n 1, 1) := by decide +kernel
theorem dX0_put_67 : decode cX0_put 67 = .ok (.istore 5, 2) := by decide +kernel
theorem dX0_put_69 : decode cX0_put 69 = .ok (.iload 5, 2) := by decide +kernel
theorem dX0_put_71 : decode cX0_put 71 = .ok (.bipush 16, 2) := by decide +kernel
theorem dX0_put_73 : decode cX0_put 73 = .ok (.if_icmp .ge 16, 3) := by decide +kernel
theorem dX0_put_76 : decode cX0_put 76 = .ok (.aload_n 0, 1) := by decide +kernel
theorem dX0_put_77 : decode cX0_put 77 = .ok (.dup, 1) := by decide +kernel
theorem dX0_put_78 : decode cX0_put 78 = .ok (.getfield 32, 3) := by decide +kernel
theorem dX0_put_81 : decode cX0_put 81 = .ok (.iconst 1, 1) := by decide +kernel
theorem dX0_put_82 : decode cX0_put 82 = .ok (.iload 5, 2) := by decide +kernel
theorem dX0_put_84 : decode cX0_put 84 = .ok (.ishl, 1) := by decide +kernel
theorem dX0_put_85 : decode cX0_put 85 = .ok (.ior, 1) := by decide +kernel
theorem dX0_put_86 : decode cX0_put 86 = .ok (.putfield 32, 3) := by decide +kernel
theorem dX0_put_89 : decode cX0_put 89 = .ok (.aload_n 0, 1) := by decide +kernel
theorem dX0_put_90 : decode cX0_put 90 = .ok (.getfield 29, 3) := by decide +kernel
theorem dX0_put_93 : decode cX0_put 93 = .ok (.istore 6, 2) := by decide +kernel
theorem dX0_put_95 : decode cX0_put 95 = .ok (.iload 6, 2) := by decide +kernel
theorem dX0_put_97 : decode cX0_put 97 = .ok (.ifCond .le 30, 3) := by decide +kernel
theorem dX0_put_100 : decode cX0_put 100 = .ok (.aload_n 0, 1) := by decide +kernel
theorem dX0_put_101 : decode cX0_put 101 = .ok (.getfield 21, 3) := by decide +kernel
theorem dX0_put_104 : decode cX0_put 104 = .ok (.aload_n 0, 1) := by decide +kernel
theorem dX0_put_105 : decode cX0_put 105 = .ok (.getfield 15, 3) := by decide +kernel
theorem dX0_put_108 : decode cX0_put 108 = .ok (.iload 6, 2) := by decide +kernel
theorem dX0_put_110 : decode cX0_put 110 = .ok (.iconst 1, 1) := by decide +kernel
theorem dX0_put_111 : decode cX0_put 111 = .ok (.isub, 1) := by decide +kernel
theorem dX0_put_112 : decode cX0_put 112 = .ok (.iaload, 1) := by decide +kernel
theorem dX0_put_113 : decode cX0_put 113 = .ok (.iload 5, 2) := by decide +kernel
theorem dX0_put_115 : decode cX0_put 115 = .ok (.invokevirtual 47, 3) := by decide +kernel
theorem dX0_put_118 : decode cX0_put 118 = .ok (.ifCond .le 9, 3) := by decide +kernel
theorem dX0_put_121 : decode cX0_put 121 = .ok (.iinc 6 (-1), 3) := by decide +kernel
theorem dX0_put_124 : decode cX0_put 124 = .ok (.goto (-29), 3) := by decide +kernel
theorem dX0_put_127 : decode cX0_put 127 = .ok (.iload 6, 2) := by decide +kernel
theorem dX0_put_129 : decode cX0_put 129 = .ok (.ifCond .le 21, 3) := by decide +kernel
theorem dX0_put_132 : decode cX0_put 132 = .ok (.aload_n 0, 1) := by decide +kernel
theorem dX0_put_133 : decode cX0_put 133 = .ok (.getfield 15, 3) := by decide +kernel
theorem dX0_put_136 : decode cX0_put 136 = .ok (.iload 6, 2) := by decide +kernel
theorem dX0_put_138 : decode cX0_put 138 = .ok (.iconst 1, 1) := by decide +kernel
theorem dX0_put_139 : decode cX0_put 139 = .ok (.isub, 1) := by decide +kernel
theorem dX0_put_140 : decode cX0_put 140 = .ok (.iaload, 1) := by decide +kernel
theorem dX0_put_141 : decode cX0_put 141 = .ok (.iload 5, 2) := by decide +kernel
theorem dX0_put_143 : decode cX0_put 143 = .ok (.if_icmp .ne 7, 3) := by decide +kernel
theorem dX0_put_146 : decode cX0_put 146 = .ok (.iconst 1, 1) := by decide +kernel
theorem dX0_put_147 : decode cX0_put 147 = .ok (.goto 4, 3) := by decide +kernel
theorem dX0_put_150 : decode cX0_put 150 = .ok (.iconst 0, 1) := by decide +kernel
theorem dX0_put_151 : decode cX0_put 151 = .ok (.istore 7, 2) := by decide +kernel
theorem dX0_put_153 : decode cX0_put 153 = .ok (.iload 7, 2) := by decide +kernel
theorem dX0_put_155 : decode cX0_put 155 = .ok (.ifCond .ne 65, 3) := by decide +kernel
theorem dX0_put_158 : decode cX0_put 158 = .ok (.iload 5, 2) := by decide +kernel
theorem dX0_put_160 : decode cX0_put 160 = .ok (.aload_n 0, 1) := by decide +kernel
theorem dX0_put_161 : decode cX0_put 161 = .ok (.invokevirtual 50, 3) := by decide +kernel
theorem dX0_put_164 : decode cX0_put 164 = .ok (.if_icmp .eq 56, 3) := by decide +kernel
theorem dX0_put_167 : decode cX0_put 167 = .ok (.aload_n 0, 1) := by decide +kernel
theorem dX0_put_168 : decode cX0_put 168 = .ok (.getfield 29, 3) := by decide +kernel
theorem dX0_put_171 : decode cX0_put 171 = .ok (.sipush 2048, 3) := by decide +kernel
theorem dX0_put_174 : decode cX0_put 174 = .ok (.if_icmp .ge 46, 3) := by decide +kernel
theorem dX0_put_177 : decode cX0_put 177 = .ok (.aload_n 0, 1) := by decide +kernel
theorem dX0_put_178 : decode cX0_put 178 = .ok (.getfield 15, 3) := by decide +kernel
theorem dX0_put_181 : decode cX0_put 181 = .ok (.iload 6, 2) := by decide +kernel
theorem dX0_put_183 : decode cX0_put 183 = .ok (.aload_n 0, 1) := by decide +kernel
theorem dX0_put_184 : decode cX0_put 184 = .ok (.getfield 15, 3) := by decide +kernel
theorem dX0_put_187 : decode cX0_put 187 = .ok (.iload 6, 2) := by decide +kernel
theorem dX0_put_189 : decode cX0_put 189 = .ok (.iconst 1, 1) := by decide +kernel
theorem dX0_put_190 : decode cX0_put 190 = .ok (.iadd, 1) := by decide +kernel
theorem dX0_put_191 : decode cX0_put 191 = .ok (.aload_n 0, 1) := by decide +kernel
theorem dX0_put_192 : decode cX0_put 192 = .ok (.getfield 29, 3) := by decide +kernel
theorem dX0_put_195 : decode cX0_put 195 = .ok (.iload 6, 2) := by decide +kernel
theorem dX0_put_197 : decode cX0_put 197 = .ok (.isub, 1) := by decide +kernel
theorem dX0_put_198 : decode cX0_put 198 = .ok (.invokestatic 54, 3) := by decide +kernel
theorem dX0_put_201 : decode cX0_put 201 = .ok (.aload_n 0, 1) := by decide +kernel
theorem dX0_put_202 : decode cX0_put 202 = .ok (.getfield 15, 3) := by decide +kernel
theorem dX0_put_205 : decode cX0_put 205 = .ok (.iload 6, 2) := by decide +kernel
theorem dX0_put_207 : decode cX0_put 207 = .ok (.iload 5, 2) := by decide +kernel
theorem dX0_put_209 : decode cX0_put 209 = .ok (.iastore, 1) := by decide +kernel
theorem dX0_put_210 : decode cX0_put 210 = .ok (.aload_n 0, 1) := by decide +kernel
theorem dX0_put_211 : decode cX0_put 211 = .ok (.dup, 1) := by decide +kernel
theorem dX0_put_212 : decode cX0_put 212 = .ok (.getfield 29, 3) := by decide +kernel
theorem dX0_put_215 : decode cX0_put 215 = .ok (.iconst 1, 1) := by decide +kernel
theorem dX0_put_216 : decode cX0_put 216 = .ok (.iadd, 1) := by decide +kernel
theorem dX0_put_217 : decode cX0_put 217 = .ok (.putfield 29, 3) := by decide +kernel
theorem dX0_put_220 : decode cX0_put 220 = .ok (.iinc 4 1, 3) := by decide +kernel
theorem dX0_put_223 : decode cX0_put 223 = .ok (.goto (-180), 3) := by decide +kernel
theorem dX0_put_226 : decode cX0_put 226 = .ok (.return_, 1) := by decide +kernel
theorem dX0_neutral_0 : decode cX0_neutral 0 = .ok (.aload_n 0, 1) := by decide +kernel
theorem dX0_neutral_1 : decode cX0_neutral 1 = .ok (.getfield 25, 3) := by decide +kernel
theorem dX0_neutral_4 : decode cX0_neutral 4 = .ok (.bipush 20, 2) := by decide +kernel
theorem dX0_neutral_6 : decode cX0_neutral 6 = .ok (.if_icmp .ne 7, 3) := by decide +kernel
theorem dX0_neutral_9 : decode cX0_neutral 9 = .ok (.iconst 1, 1) := by decide +kernel
theorem dX0_neutral_10 : decode cX0_neutral 10 = .ok (.goto 4, 3) := by decide +kernel
theorem dX0_neutral_13 : decode cX0_neutral 13 = .ok (.iconst 0, 1) := by decide +kernel
theorem dX0_neutral_14 : decode cX0_neutral 14 = .ok (.ireturn, 1) := by decide +kernel
theorem dX0_done_0 : decode cX0_done 0 = .ok (.aload_n 0, 1) := by decide +kernel
theorem dX0_done_1 : decode cX0_done 1 = .ok (.invokevirtual 50, 3) := by decide +kernel
theorem dX0_done_4 : decode cX0_done 4 = .ok (.istore_n 1, 1) := by decide +kernel
theorem dX0_done_5 : decode cX0_done 5 = .ok (.iconst 1, 1) := by decide +kernel
theorem dX0_done_6 : decode cX0_done 6 = .ok (.iload_n 1, 1) := by decide +kernel
theorem dX0_done_7 : decode cX0_done 7 = .ok (.isub, 1) := by decide +kernel
theorem dX0_done_8 : decode cX0_done 8 = .ok (.istore_n 2, 1) := by decide +kernel
theorem dX0_done_9 : decode cX0_done 9 = .ok (.aload_n 0, 1) := by decide +kernel
theorem dX0_done_10 : decode cX0_done 10 = .ok (.getfield 32, 3) := by decide +kernel
theorem dX0_done_13 : decode cX0_done 13 = .ok (.iconst 1, 1) := by decide +kernel
theorem dX0_done_14 : decode cX0_done 14 = .ok (.iload_n 2, 1) := by decide +kernel
theorem dX0_done_15 : decode cX0_done 15 = .ok (.ishl, 1) := by decide +kernel
theorem dX0_done_16 : decode cX0_done 16 = .ok (.iand, 1) := by decide +kernel
theorem dX0_done_17 : decode cX0_done 17 = .ok (.ifCond .eq 7, 3) := by decide +kernel
theorem dX0_done_20 : decode cX0_done 20 = .ok (.iconst 1, 1) := by decide +kernel
theorem dX0_done_21 : decode cX0_done 21 = .ok (.goto 4, 3) := by decide +kernel
theorem dX0_done_24 : decode cX0_done 24 = .ok (.iconst 0, 1) := by decide +kernel
theorem dX0_done_25 : decode cX0_done 25 = .ok (.istore_n 3, 1) := by decide +kernel
theorem dX0_done_26 : decode cX0_done 26 = .ok (.aload_n 0, 1) := by decide +kernel
theorem dX0_done_27 : decode cX0_done 27 = .ok (.getfield 32, 3) := by decide +kernel
theorem dX0_done_30 : decode cX0_done 30 = .ok (.bipush 12, 2) := by decide +kernel
theorem dX0_done_32 : decode cX0_done 32 = .ok (.iand, 1) := by decide +kernel
theorem dX0_done_33 : decode cX0_done 33 = .ok (.bipush 12, 2) := by decide +kernel
theorem dX0_done_35 : decode cX0_done 35 = .ok (.if_icmp .ne 7, 3) := by decide +kernel
theorem dX0_done_38 : decode cX0_done 38 = .ok (.iconst 1, 1) := by decide +kernel
theorem dX0_done_39 : decode cX0_done 39 = .ok (.goto 4, 3) := by decide +kernel
theorem dX0_done_42 : decode cX0_done 42 = .ok (.iconst 0, 1) := by decide +kernel
theorem dX0_done_43 : decode cX0_done 43 = .ok (.istore 4, 2) := by decide +kernel
theorem dX0_done_45 : decode cX0_done 45 = .ok (.aload_n 0, 1) := by decide +kernel
theorem dX0_done_46 : decode cX0_done 46 = .ok (.getfield 32, 3) := by decide +kernel
theorem dX0_done_49 : decode cX0_done 49 = .ok (.iconst 4, 1) := by decide +kernel
theorem dX0_done_50 : decode cX0_done 50 = .ok (.ishr, 1) := by decide +kernel
theorem dX0_done_51 : decode cX0_done 51 = .ok (.aload_n 0, 1) := by decide +kernel
theorem dX0_done_52 : decode cX0_done 52 = .ok (.getfield 32, 3) := by decide +kernel
theorem dX0_done_55 : decode cX0_done 55 = .ok (.bipush 10, 2) := by decide +kernel
theorem dX0_done_57 : decode cX0_done 57 = .ok (.ishr, 1) := by decide +kernel
theorem dX0_done_58 : decode cX0_done 58 = .ok (.iand, 1) := by decide +kernel
theorem dX0_done_59 : decode cX0_done 59 = .ok (.ifCond .eq 7, 3) := by decide +kernel
theorem dX0_done_62 : decode cX0_done 62 = .ok (.iconst 1, 1) := by decide +kernel
theorem dX0_done_63 : decode cX0_done 63 = .ok (.goto 4, 3) := by decide +kernel
theorem dX0_done_66 : decode cX0_done 66 = .ok (.iconst 0, 1) := by decide +kernel
theorem dX0_done_67 : decode cX0_done 67 = .ok (.istore 5, 2) := by decide +kernel
theorem dX0_done_69 : decode cX0_done 69 = .ok (.iload_n 3, 1) := by decide +kernel
theorem dX0_done_70 : decode cX0_done 70 = .ok (.ifCond .ne 13, 3) := by decide +kernel
theorem dX0_done_73 : decode cX0_done 73 = .ok (.iload 4, 2) := by decide +kernel
theorem dX0_done_75 : decode cX0_done 75 = .ok (.ifCond .ne 8, 3) := by decide +kernel
theorem dX0_done_78 : decode cX0_done 78 = .ok (.iload 5, 2) := by decide +kernel
theorem dX0_done_80 : decode cX0_done 80 = .ok (.ifCond .eq 5, 3) := by decide +kernel
theorem dX0_done_83 : decode cX0_done 83 = .ok (.iload_n 2, 1) := by decide +kernel
theorem dX0_done_84 : decode cX0_done 84 = .ok (.ireturn, 1) := by decide +kernel
theorem dX0_done_85 : decode cX0_done 85 = .ok (.aload_n 0, 1) := by decide +kernel
theorem dX0_done_86 : decode cX0_done 86 = .ok (.getfield 29, 3) := by decide +kernel
theorem dX0_done_89 : decode cX0_done 89 = .ok (.ifCond .ne 5, 3) := by decide +kernel
theorem dX0_done_92 : decode cX0_done 92 = .ok (.iload_n 1, 1) := by decide +kernel
theorem dX0_done_93 : decode cX0_done 93 = .ok (.ireturn, 1) := by decide +kernel
theorem dX0_done_94 : decode cX0_done 94 = .ok (.aload_n 0, 1) := by decide +kernel
theorem dX0_done_95 : decode cX0_done 95 = .ok (.getfield 29, 3) := by decide +kernel
theorem dX0_done_98 : decode cX0_done 98 = .ok (.iconst 1, 1) := by decide +kernel
theorem dX0_done_99 : decode cX0_done 99 = .ok (.if_icmp .ne 12, 3) := by decide +kernel
theorem dX0_done_102 : decode cX0_done 102 = .ok (.aload_n 0, 1) := by decide +kernel
theorem dX0_done_103 : decode cX0_done 103 = .ok (.getfield 15, 3) := by decide +kernel
theorem dX0_done_106 : decode cX0_done 106 = .ok (.iconst 0, 1) := by decide +kernel
theorem dX0_done_107 : decode cX0_done 107 = .ok (.iaload, 1) := by decide +kernel
theorem dX0_done_108 : decode cX0_done 108 = .ok (.goto 23, 3) := by decide +kernel
theorem dX0_done_111 : decode cX0_done 111 = .ok (.aload_n 0, 1) := by decide +kernel
theorem dX0_done_112 : decode cX0_done 112 = .ok (.getfield 21, 3) := by decide +kernel
theorem dX0_done_115 : decode cX0_done 115 = .ok (.aload_n 0, 1) := by decide +kernel
theorem dX0_done_116 : decode cX0_done 116 = .ok (.getfield 25, 3) := by decide +kernel
theorem dX0_done_119 : decode cX0_done 119 = .ok (.aload_n 0, 1) := by decide +kernel
theorem dX0_done_120 : decode cX0_done 120 = .ok (.getfield 15, 3) := by decide +kernel
theorem dX0_done_123 : decode cX0_done 123 = .ok (.iconst 0, 1) := by decide +kernel
theorem dX0_done_124 : decode cX0_done 124 = .ok (.aload_n 0, 1) := by decide +kernel
theorem dX0_done_125 : decode cX0_done 125 = .ok (.getfield 29, 3) := by decide +kernel
theorem dX0_done_128 : decode cX0_done 128 = .ok (.invokevirtual 60, 3) := by decide +kernel
theorem dX0_done_131 : decode cX0_done 131 = .ok (.ireturn, 1) := by decide +kernel
theorem dX0_two_0 : decode cX0_two 0 = .ok (.aload_n 0, 1) := by decide +kernel
theorem dX0_two_1 : decode cX0_two 1 = .ok (.iload_n 1, 1) := by decide +kernel
theorem dX0_two_2 : decode cX0_two 2 = .ok (.invokevirtual 64, 3) := by decide +kernel
theorem dX0_two_5 : decode cX0_two 5 = .ok (.aload_n 0, 1) := by decide +kernel
theorem dX0_two_6 : decode cX0_two 6 = .ok (.iload_n 2, 1) := by decide +kernel
theorem dX0_two_7 : decode cX0_two 7 = .ok (.invokevirtual 68, 3) := by decide +kernel
theorem dX0_two_10 : decode cX0_two 10 = .ok (.aload_n 0, 1) := by decide +kernel
theorem dX0_two_11 : decode cX0_two 11 = .ok (.iload_n 3, 1) := by decide +kernel
theorem dX0_two_12 : decode cX0_two 12 = .ok (.invokevirtual 68, 3) := by decide +kernel
theorem dX0_two_15 : decode cX0_two 15 = .ok (.aload_n 0, 1) := by decide +kernel
theorem dX0_two_16 : decode cX0_two 16 = .ok (.invokevirtual 71, 3) := by decide +kernel
theorem dX0_two_19 : decode cX0_two 19 = .ok (.ireturn, 1) := by decide +kernel
theorem dX0_make_0 : decode cX0_make 0 = .ok (.aload_n 0, 1) := by decide +kernel
theorem dX0_make_1 : decode cX0_make 1 = .ok (.getfield 18, 3) := by decide +kernel
theorem dX0_make_4 : decode cX0_make 4 = .ok (.iconst 0, 1) := by decide +kernel
theorem dX0_make_5 : decode cX0_make 5 = .ok (.iload_n 2, 1) := by decide +kernel
theorem dX0_make_6 : decode cX0_make 6 = .ok (.iastore, 1) := by decide +kernel
theorem dX0_make_7 : decode cX0_make 7 = .ok (.aload_n 0, 1) := by decide +kernel
theorem dX0_make_8 : decode cX0_make 8 = .ok (.getfield 18, 3) := by decide +kernel
theorem dX0_make_11 : decode cX0_make 11 = .ok (.iconst 1, 1) := by decide +kernel
theorem dX0_make_12 : decode cX0_make 12 = .ok (.iload_n 3, 1) := by decide +kernel
theorem dX0_make_13 : decode cX0_make 13 = .ok (.iastore, 1) := by decide +kernel
theorem dX0_make_14 : decode cX0_make 14 = .ok (.aload_n 0, 1) := by decide +kernel
theorem dX0_make_15 : decode cX0_make 15 = .ok (.getfield 21, 3) := by decide +kernel
theorem dX0_make_18 : decode cX0_make 18 = .ok (.iload_n 1, 1) := by decide +kernel
theorem dX0_make_19 : decode cX0_make 19 = .ok (.aload_n 0, 1) := by decide +kernel
theorem dX0_make_20 : decode cX0_make 20 = .ok (.getfield 18, 3) := by decide +kernel
theorem dX0_make_23 : decode cX0_make 23 = .ok (.iconst 0, 1) := by decide +kernel
theorem dX0_make_24 : decode cX0_make 24 = .ok (.iload_n 1, 1) := by decide +kernel
theorem dX0_make_25 : decode cX0_make 25 = .ok (.bipush 16, 2) := by decide +kernel
theorem dX0_make_27 : decode cX0_make 27 = .ok (.if_icmp .eq 9, 3) := by decide +kernel
theorem dX0_make_30 : decode cX0_make 30 = .ok (.iload_n 1, 1) := by decide +kernel
theorem dX0_make_31 : decode cX0_make 31 = .ok (.bipush 17, 2) := by decide +kernel
theorem dX0_make_33 : decode cX0_make 33 = .ok (.if_icmp .ne 7, 3) := by decide +kernel
theorem dX0_make_36 : decode cX0_make 36 = .ok (.iconst 1, 1) := by decide +kernel
theorem dX0_make_37 : decode cX0_make 37 = .ok (.goto 4, 3) := by decide +kernel
theorem dX0_make_40 : decode cX0_make 40 = .ok (.iconst 2, 1) := by decide +kernel
theorem dX0_make_41 : decode cX0_make 41 = .ok (.invokevirtual 60, 3) := by decide +kernel
theorem dX0_make_44 : decode cX0_make 44 = .ok (.ireturn, 1) := by decide +kernel
theorem dX0_behind_0 : decode cX0_behind 0 = .ok (.aload_n 0, 1) := by decide +kernel
theorem dX0_behind_1 : decode cX0_behind 1 = .ok (.getfield 9, 3) := by decide +kernel
theorem dX0_behind_4 : decode cX0_behind 4 = .ok (.iconst 0, 1) := by decide +kernel
theorem dX0_behind_5 : decode cX0_behind 5 = .ok (.iconst 0, 1) := by decide +kernel
theorem dX0_behind_6 : decode cX0_behind 6 = .ok (.iastore, 1) := by decide +kernel
theorem dX0_behind_7 : decode cX0_behind 7 = .ok (.aload_n 0, 1) := by decide +kernel
theorem dX0_behind_8 : decode cX0_behind 8 = .ok (.getfield 9, 3) := by decide +kernel
theorem dX0_behind_11 : decode cX0_behind 11 = .ok (.iconst 1, 1) := by decide +kernel
theorem dX0_behind_12 : decode cX0_behind 12 = .ok (.iconst 1, 1) := by decide +kernel
theorem dX0_behind_13 : decode cX0_behind 13 = .ok (.iastore, 1) := by decide +kernel
theorem dX0_behind_14 : decode cX0_behind 14 = .ok (.aload_n 0, 1) := by decide +kernel
theorem dX0_behind_15 : decode cX0_behind 15 = .ok (.getfield 9, 3) := by decide +kernel
theorem dX0_behind_18 : decode cX0_behind 18 = .ok (.iconst 2, 1) := by decide +kernel
theorem dX0_behind_19 : decode cX0_behind 19 = .ok (.iconst 1, 1) := by decide +kernel
theorem dX0_behind_20 : decode cX0_behind 20 = .ok (.iastore, 1) := by decide +kernel
theorem dX0_behind_21 : decode cX0_behind 21 = .ok (.aload_n 0, 1) := by decide +kernel
theorem dX0_behind_22 : decode cX0_behind 22 = .ok (.getfield 9, 3) := by decide +kernel
theorem dX0_behind_25 : decode cX0_behind 25 = .ok (.iconst 3, 1) := by decide +kernel
theorem dX0_behind_26 : decode cX0_behind 26 = .ok (.iconst 0, 1) := by decide +kernel
theorem dX0_behind_27 : decode cX0_behind 27 = .ok (.iastore, 1) := by decide +kernel
theorem dX0_behind_28 : decode cX0_behind 28 = .ok (.iconst 0, 1) := by decide +kernel
theorem dX0_behind_29 : decode cX0_behind 29 = .ok (.istore_n 3, 1) := by decide +kernel
theorem dX0_behind_30 : decode cX0_behind 30 = .ok (.iload_n 3, 1) := by decide +kernel
theorem dX0_behind_31 : decode cX0_behind 31 = .ok (.bipush 6, 2) := by decide +kernel
theorem dX0_behind_33 : decode cX0_behind 33 = .ok (.if_icmp .ge 61, 3) := by decide +kernel
theorem dX0_behind_36 : decode cX0_behind 36 = .ok (.iload_n 2, 1) := by decide +kernel
theorem dX0_behind_37 : decode cX0_behind 37 = .ok (.iconst 1, 1) := by decide +kernel
theorem dX0_behind_38 : decode cX0_behind 38 = .ok (.iload_n 3, 1) := by decide +kernel
theorem dX0_behind_39 : decode cX0_behind 39 = .ok (.ishl, 1) := by decide +kernel
theorem dX0_behind_40 : decode cX0_behind 40 = .ok (.iand, 1) := by decide +kernel
theorem dX0_behind_41 : decode cX0_behind 41 = .ok (.ifCond .eq 7, 3) := by decide +kernel
theorem dX0_behind_44 : decode cX0_behind 44 = .ok (.iconst 1, 1) := by decide +kernel
theorem dX0_behind_45 : decode cX0_behind 45 = .ok (.goto 4, 3) := by decide +kernel
theorem dX0_behind_48 : decode cX0_behind 48 = .ok (.iconst 0, 1) := by decide +kernel
theorem dX0_behind_49 : decode cX0_behind 49 = .ok (.istore 4, 2) := by decide +kernel
theorem dX0_behind_51 : decode cX0_behind 51 = .ok (.aload_n 0, 1) := by decide +kernel
theorem dX0_behind_52 : decode cX0_behind 52 = .ok (.getfield 9, 3) := by decide +kernel
theorem dX0_behind_55 : decode cX0_behind 55 = .ok (.iconst 4, 1) := by decide +kernel
theorem dX0_behind_56 : decode cX0_behind 56 = .ok (.iload_n 3, 1) := by decide +kernel
theorem dX0_behind_57 : decode cX0_behind 57 = .ok (.iadd, 1) := by decide +kernel
theorem dX0_behind_58 : decode cX0_behind 58 = .ok (.iload 4, 2) := by decide +kernel
theorem dX0_behind_60 : decode cX0_behind 60 = .ok (.ifCond .eq 7, 3) := by decide +kernel
theorem dX0_behind_63 : decode cX0_behind 63 = .ok (.iconst 1, 1) := by decide +kernel
theorem dX0_behind_64 : decode cX0_behind 64 = .ok (.goto 4, 3) := by decide +kernel
theorem dX0_behind_67 : decode cX0_behind 67 = .ok (.iconst 0, 1) := by decide +kernel
theorem dX0_behind_68 : decode cX0_behind 68 = .ok (.iastore, 1) := by decide +kernel
theorem dX0_behind_69 : decode cX0_behind 69 = .ok (.aload_n 0, 1) := by decide +kernel
theorem dX0_behind_70 : decode cX0_behind 70 = .ok (.getfield 9, 3) := by decide +kernel
theorem dX0_behind_73 : decode cX0_behind 73 = .ok (.bipush 10, 2) := by decide +kernel
theorem dX0_behind_75 : decode cX0_behind 75 = .ok (.iload_n 3, 1) := by decide +kernel
theorem dX0_behind_76 : decode cX0_behind 76 = .ok (.iadd, 1) := by decide +kernel
theorem dX0_behind_77 : decode cX0_behind 77 = .ok (.iload 4, 2) := by decide +kernel
theorem dX0_behind_79 : decode cX0_behind 79 = .ok (.ifCond .eq 7, 3) := by decide +kernel
theorem dX0_behind_82 : decode cX0_behind 82 = .ok (.iconst 0, 1) := by decide +kernel
theorem dX0_behind_83 : decode cX0_behind 83 = .ok (.goto 4, 3) := by decide +kernel
theorem dX0_behind_86 : decode cX0_behind 86 = .ok (.iconst 1, 1) := by decide +kernel
theorem dX0_behind_87 : decode cX0_behind 87 = .ok (.iastore, 1) := by decide +kernel
theorem dX0_behind_88 : decode cX0_behind 88 = .ok (.iinc 3 1, 3) := by decide +kernel
theorem dX0_behind_91 : decode cX0_behind 91 = .ok (.goto (-61), 3) := by decide +kernel
theorem dX0_behind_94 : decode cX0_behind 94 = .ok (.bipush 16, 2) := by decide +kernel
theorem dX0_behind_96 : decode cX0_behind 96 = .ok (.istore_n 3, 1) := by decide +kernel
theorem dX0_behind_97 : decode cX0_behind 97 = .ok (.iload_n 3, 1) := by decide +kernel
theorem dX0_behind_98 : decode cX0_behind 98 = .ok (.iload_n 1, 1) := by decide +kernel
theorem dX0_behind_99 : decode cX0_behind 99 = .ok (.if_icmp .gt 207, 3) := by decide +kernel
theorem dX0_behind_102 : decode cX0_behind 102 = .ok (.aload_n 0, 1) := by decide +kernel
theorem dX0_behind_103 : decode cX0_behind 103 = .ok (.getfield 21, 3) := by decide +kernel
theorem dX0_behind_106 : decode cX0_behind 106 = .ok (.iload_n 3, 1) := by decide +kernel
theorem dX0_behind_107 : decode cX0_behind 107 = .ok (.iconst 0, 1) := by decide +kernel
theorem dX0_behind_108 : decode cX0_behind 108 = .ok (.invokevirtual 43, 3) := by decide +kernel
theorem dX0_behind_111 : decode cX0_behind 111 = .ok (.istore 4, 2) := by decide +kernel
theorem dX0_behind_113 : decode cX0_behind 113 = .ok (.aload_n 0, 1) := by decide +kernel
theorem dX0_behind_114 : decode cX0_behind 114 = .ok (.getfield 21, 3) := by decide +kernel
theorem dX0_behind_117 : decode cX0_behind 117 = .ok (.iload_n 3, 1) := by decide +kernel
theorem dX0_behind_118 : decode cX0_behind 118 = .ok (.aload_n 0, 1) := by decide +kernel
theorem dX0_behind_119 : decode cX0_behind 119 = .ok (.getfield 21, 3) := by decide +kernel
theorem dX0_behind_122 : decode cX0_behind 122 = .ok (.getfield 40, 3) := by decide +kernel
theorem dX0_behind_125 : decode cX0_behind 125 = .ok (.iload_n 3, 1) := by decide +kernel
theorem dX0_behind_126 : decode cX0_behind 126 = .ok (.iaload, 1) := by decide +kernel
theorem dX0_behind_127 : decode cX0_behind 127 = .ok (.iconst 1, 1) := by decide +kernel
theorem dX0_behind_128 : decode cX0_behind 128 = .ok (.isub, 1) := by decide +kernel
theorem dX0_behind_129 : decode cX0_behind 129 = .ok (.invokevirtual 43, 3) := by decide +kernel
theorem dX0_behind_132 : decode cX0_behind 132 = .ok (.istore 5, 2) := by decide +kernel
theorem dX0_behind_134 : decode cX0_behind 134 = .ok (.aload_n 0, 1) := by decide +kernel
theorem dX0_behind_135 : decode cX0_behind 135 = .ok (.getfield 21, 3) := by decide +kernel
theorem dX0_behind_138 : decode cX0_behind 138 = .ok (.getfield 35, 3) := by decide +kernel
theorem dX0_behind_141 : decode cX0_behind 141 = .ok (.iload_n 3, 1) := by decide +kernel
theorem dX0_behind_142 : decode cX0_behind 142 = .ok (.iaload, 1) := by decide +kernel
theorem dX0_behind_143 : decode cX0_behind 143 = .ok (.tableswitch 137 16 19 #[29, 47, 65, 101], 29) := by decide +kernel
theorem dX0_behind_172 : decode cX0_behind 172 = .ok (.aload_n 0, 1) := by decide +kernel
theorem dX0_behind_173 : decode cX0_behind 173 = .ok (.getfield 9, 3) := by decide +kernel
theorem dX0_behind_176 : decode cX0_behind 176 = .ok (.iload_n 3, 1) := by decide +kernel
theorem dX0_behind_177 : decode cX0_behind 177 = .ok (.aload_n 0, 1) := by decide +kernel
theorem dX0_behind_178 : decode cX0_behind 178 = .ok (.bipush 20, 2) := by decide +kernel
theorem dX0_behind_180 : decode cX0_behind 180 = .ok (.iconst 2, 1) := by decide +kernel
theorem dX0_behind_181 : decode cX0_behind 181 = .ok (.iload 4, 2) := by decide +kernel
theorem dX0_behind_183 : decode cX0_behind 183 = .ok (.invokevirtual 74, 3) := by decide +kernel
theorem dX0_behind_186 : decode cX0_behind 186 = .ok (.iastore, 1) := by decide +kernel
theorem dX0_behind_187 : decode cX0_behind 187 = .ok (.goto 113, 3) := by decide +kernel
theorem dX0_behind_190 : decode cX0_behind 190 = .ok (.aload_n 0, 1) := by decide +kernel
theorem dX0_behind_191 : decode cX0_behind 191 = .ok (.getfield 9, 3) := by decide +kernel
theorem dX0_behind_194 : decode cX0_behind 194 = .ok (.iload_n 3, 1) := by decide +kernel
theorem dX0_behind_195 : decode cX0_behind 195 = .ok (.aload_n 0, 1) := by decide +kernel
theorem dX0_behind_196 : decode cX0_behind 196 = .ok (.bipush 21, 2) := by decide +kernel
theorem dX0_behind_198 : decode cX0_behind 198 = .ok (.iconst 3, 1) := by decide +kernel
theorem dX0_behind_199 : decode cX0_behind 199 = .ok (.iload 4, 2) := by decide +kernel
theorem dX0_behind_201 : decode cX0_behind 201 = .ok (.invokevirtual 74, 3) := by decide +kernel
theorem dX0_behind_204 : decode cX0_behind 204 = .ok (.iastore, 1) := by decide +kernel
theorem dX0_behind_205 : decode cX0_behind 205 = .ok (.goto 95, 3) := by decide +kernel
theorem dX0_behind_208 : decode cX0_behind 208 = .ok (.aload_n 0, 1) := by decide +kernel
theorem dX0_behind_209 : decode cX0_behind 209 = .ok (.getfield 9, 3) := by decide +kernel
theorem dX0_behind_212 : decode cX0_behind 212 = .ok (.iload_n 3, 1) := by decide +kernel
theorem dX0_behind_213 : decode cX0_behind 213 = .ok (.aload_n 0, 1) := by decide +kernel
theorem dX0_behind_214 : decode cX0_behind 214 = .ok (.bipush 21, 2) := by decide +kernel
theorem dX0_behind_216 : decode cX0_behind 216 = .ok (.aload_n 0, 1) := by decide +kernel
theorem dX0_behind_217 : decode cX0_behind 217 = .ok (.getfield 9, 3) := by decide +kernel
theorem dX0_behind_220 : decode cX0_behind 220 = .ok (.iload 5, 2) := by decide +kernel
theorem dX0_behind_222 : decode cX0_behind 222 = .ok (.iaload, 1) := by decide +kernel
theorem dX0_behind_223 : decode cX0_behind 223 = .ok (.aload_n 0, 1) := by decide +kernel
theorem dX0_behind_224 : decode cX0_behind 224 = .ok (.bipush 20, 2) := by decide +kernel
theorem dX0_behind_226 : decode cX0_behind 226 = .ok (.aload_n 0, 1) := by decide +kernel
theorem dX0_behind_227 : decode cX0_behind 227 = .ok (.getfield 9, 3) := by decide +kernel
theorem dX0_behind_230 : decode cX0_behind 230 = .ok (.iload 4, 2) := by decide +kernel
theorem dX0_behind_232 : decode cX0_behind 232 = .ok (.iaload, 1) := by decide +kernel
theorem dX0_behind_233 : decode cX0_behind 233 = .ok (.iload_n 3, 1) := by decide +kernel
theorem dX0_behind_234 : decode cX0_behind 234 = .ok (.invokevirtual 74, 3) := by decide +kernel
theorem dX0_behind_237 : decode cX0_behind 237 = .ok (.invokevirtual 74, 3) := by decide +kernel
theorem dX0_behind_240 : decode cX0_behind 240 = .ok (.iastore, 1) := by decide +kernel
theorem dX0_behind_241 : decode cX0_behind 241 = .ok (.goto 59, 3) := by decide +kernel
theorem dX0_behind_244 : decode cX0_behind 244 = .ok (.aload_n 0, 1) := by decide +kernel
theorem dX0_behind_245 : decode cX0_behind 245 = .ok (.getfield 9, 3) := by decide +kernel
theorem dX0_behind_248 : decode cX0_behind 248 = .ok (.iload_n 3, 1) := by decide +kernel
theorem dX0_behind_249 : decode cX0_behind 249 = .ok (.aload_n 0, 1) := by decide +kernel
theorem dX0_behind_250 : decode cX0_behind 250 = .ok (.bipush 20, 2) := by decide +kernel
theorem dX0_behind_252 : decode cX0_behind 252 = .ok (.aload_n 0, 1) := by decide +kernel
theorem dX0_behind_253 : decode cX0_behind 253 = .ok (.getfield 9, 3) := by decide +kernel
theorem dX0_behind_256 : decode cX0_behind 256 = .ok (.iload 5, 2) := by decide +kernel
theorem dX0_behind_258 : decode cX0_behind 258 = .ok (.iaload, 1) := by decide +kernel
theorem dX0_behind_259 : decode cX0_behind 259 = .ok (.aload_n 0, 1) := by decide +kernel
theorem dX0_behind_260 : decode cX0_behind 260 = .ok (.bipush 21, 2) := by decide +kernel
theorem dX0_behind_262 : decode cX0_behind 262 = .ok (.aload_n 0, 1) := by decide +kernel
theorem dX0_behind_263 : decode cX0_behind 263 = .ok (.getfield 9, 3) := by decide +kernel
theorem dX0_behind_266 : decode cX0_behind 266 = .ok (.iload 4, 2) := by decide +kernel
theorem dX0_behind_268 : decode cX0_behind 268 = .ok (.iaload, 1) := by decide +kernel
theorem dX0_behind_269 : decode cX0_behind 269 = .ok (.iload_n 3, 1) := by decide +kernel
theorem dX0_behind_270 : decode cX0_behind 270 = .ok (.invokevirtual 74, 3) := by decide +kernel
theorem dX0_behind_273 : decode cX0_behind 273 = .ok (.invokevirtual 74, 3) := by decide +kernel
theorem dX0_behind_276 : decode cX0_behind 276 = .ok (.iastore, 1) := by decide +kernel
theorem dX0_behind_277 : decode cX0_behind 277 = .ok (.goto 23, 3) := by decide +kernel
theorem dX0_behind_280 : decode cX0_behind 280 = .ok (.aload_n 0, 1) := by decide +kernel
theorem dX0_behind_281 : decode cX0_behind 281 = .ok (.getfield 9, 3) := by decide +kernel
theorem dX0_behind_284 : decode cX0_behind 284 = .ok (.iload_n 3, 1) := by decide +kernel
theorem dX0_behind_285 : decode cX0_behind 285 = .ok (.aload_n 0, 1) := by decide +kernel
theorem dX0_behind_286 : decode cX0_behind 286 = .ok (.iload_n 3, 1) := by decide +kernel
theorem dX0_behind_287 : decode cX0_behind 287 = .ok (.aload_n 0, 1) := by decide +kernel
theorem dX0_behind_288 : decode cX0_behind 288 = .ok (.getfield 21, 3) := by decide +kernel
theorem dX0_behind_291 : decode cX0_behind 291 = .ok (.getfield 35, 3) := by decide +kernel
theorem dX0_behind_294 : decode cX0_behind 294 = .ok (.iload_n 3, 1) := by decide +kernel
theorem dX0_behind_295 : decode cX0_behind 295 = .ok (.iaload, 1) := by decide +kernel
theorem dX0_behind_296 : decode cX0_behind 296 = .ok (.invokevirtual 78, 3) := by decide +kernel
theorem dX0_behind_299 : decode cX0_behind 299 = .ok (.iastore, 1) := by decide +kernel
theorem dX0_behind_300 : decode cX0_behind 300 = .ok (.iinc 3 1, 3) := by decide +kernel
theorem dX0_behind_303 : decode cX0_behind 303 = .ok (.goto (-206), 3) := by decide +kernel
theorem dX0_behind_306 : decode cX0_behind 306 = .ok (.aload_n 0, 1) := by decide +kernel
theorem dX0_behind_307 : decode cX0_behind 307 = .ok (.getfield 9, 3) := by decide +kernel
theorem dX0_behind_310 : decode cX0_behind 310 = .ok (.iload_n 1, 1) := by decide +kernel
theorem dX0_behind_311 : decode cX0_behind 311 = .ok (.iaload, 1) := by decide +kernel
theorem dX0_behind_312 : decode cX0_behind 312 = .ok (.ireturn, 1) := by decide +kernel
theorem dX0_opposite_0 : decode cX0_opposite 0 = .ok (.aload_n 0, 1) := by decide +kernel
theorem dX0_opposite_1 : decode cX0_opposite 1 = .ok (.getfield 9, 3) := by decide +kernel
theorem dX0_opposite_4 : decode cX0_opposite 4 = .ok (.iconst 0, 1) := by decide +kernel
theorem dX0_opposite_5 : decode cX0_opposite 5 = .ok (.iconst 1, 1) := by decide +kernel
theorem dX0_opposite_6 : decode cX0_opposite 6 = .ok (.iastore, 1) := by decide +kernel
theorem dX0_opposite_7 : decode cX0_opposite 7 = .ok (.aload_n 0, 1) := by decide +kernel
theorem dX0_opposite_8 : decode cX0_opposite 8 = .ok (.getfield 9, 3) := by decide +kernel
theorem dX0_opposite_11 : decode cX0_opposite 11 = .ok (.iconst 1, 1) := by decide +kernel
theorem dX0_opposite_12 : decode cX0_opposite 12 = .ok (.iconst 0, 1) := by decide +kernel
theorem dX0_opposite_13 : decode cX0_opposite 13 = .ok (.iastore, 1) := by decide +kernel
theorem dX0_opposite_14 : decode cX0_opposite 14 = .ok (.aload_n 0, 1) := by decide +kernel
theorem dX0_opposite_15 : decode cX0_opposite 15 = .ok (.getfield 9, 3) := by decide +kernel
theorem dX0_opposite_18 : decode cX0_opposite 18 = .ok (.iconst 2, 1) := by decide +kernel
theorem dX0_opposite_19 : decode cX0_opposite 19 = .ok (.iconst 3, 1) := by decide +kernel
theorem dX0_opposite_20 : decode cX0_opposite 20 = .ok (.iastore, 1) := by decide +kernel
theorem dX0_opposite_21 : decode cX0_opposite 21 = .ok (.aload_n 0, 1) := by decide +kernel
theorem dX0_opposite_22 : decode cX0_opposite 22 = .ok (.getfield 9, 3) := by decide +kernel
theorem dX0_opposite_25 : decode cX0_opposite 25 = .ok (.iconst 3, 1) := by decide +kernel
theorem dX0_opposite_26 : decode cX0_opposite 26 = .ok (.iconst 2, 1) := by decide +kernel
theorem dX0_opposite_27 : decode cX0_opposite 27 = .ok (.iastore, 1) := by decide +kernel
theorem dX0_opposite_28 : decode cX0_opposite 28 = .ok (.iconst 0, 1) := by decide +kernel
theorem dX0_opposite_29 : decode cX0_opposite 29 = .ok (.istore_n 2, 1) := by decide +kernel
theorem dX0_opposite_30 : decode cX0_opposite 30 = .ok (.iload_n 2, 1) := by decide +kernel
theorem dX0_opposite_31 : decode cX0_opposite 31 = .ok (.bipush 6, 2) := by decide +kernel
theorem dX0_opposite_33 : decode cX0_opposite 33 = .ok (.if_icmp .ge 33, 3) := by decide +kernel
theorem dX0_opposite_36 : decode cX0_opposite 36 = .ok (.aload_n 0, 1) := by decide +kernel
theorem dX0_opposite_37 : decode cX0_opposite 37 = .ok (.getfield 9, 3) := by decide +kernel
theorem dX0_opposite_40 : decode cX0_opposite 40 = .ok (.iconst 4, 1) := by decide +kernel
theorem dX0_opposite_41 : decode cX0_opposite 41 = .ok (.iload_n 2, 1) := by decide +kernel
theorem dX0_opposite_42 : decode cX0_opposite 42 = .ok (.iadd, 1) := by decide +kernel
theorem dX0_opposite_43 : decode cX0_opposite 43 = .ok (.bipush 10, 2) := by decide +kernel
theorem dX0_opposite_45 : decode cX0_opposite 45 = .ok (.iload_n 2, 1) := by decide +kernel
theorem dX0_opposite_46 : decode cX0_opposite 46 = .ok (.iadd, 1) := by decide +kernel
theorem dX0_opposite_47 : decode cX0_opposite 47 = .ok (.iastore, 1) := by decide +kernel
theorem dX0_opposite_48 : decode cX0_opposite 48 = .ok (.aload_n 0, 1) := by decide +kernel
theorem dX0_opposite_49 : decode cX0_opposite 49 = .ok (.getfield 9, 3) := by decide +kernel
theorem dX0_opposite_52 : decode cX0_opposite 52 = .ok (.bipush 10, 2) := by decide +kernel
theorem dX0_opposite_54 : decode cX0_opposite 54 = .ok (.iload_n 2, 1) := by decide +kernel
theorem dX0_opposite_55 : decode cX0_opposite 55 = .ok (.iadd, 1) := by decide +kernel
theorem dX0_opposite_56 : decode cX0_opposite 56 = .ok (.iconst 4, 1) := by decide +kernel
theorem dX0_opposite_57 : decode cX0_opposite 57 = .ok (.iload_n 2, 1) := by decide +kernel
theorem dX0_opposite_58 : decode cX0_opposite 58 = .ok (.iadd, 1) := by decide +kernel
theorem dX0_opposite_59 : decode cX0_opposite 59 = .ok (.iastore, 1) := by decide +kernel
theorem dX0_opposite_60 : decode cX0_opposite 60 = .ok (.iinc 2 1, 3) := by decide +kernel
theorem dX0_opposite_63 : decode cX0_opposite 63 = .ok (.goto (-33), 3) := by decide +kernel
theorem dX0_opposite_66 : decode cX0_opposite 66 = .ok (.bipush 16, 2) := by decide +kernel
theorem dX0_opposite_68 : decode cX0_opposite 68 = .ok (.istore_n 2, 1) := by decide +kernel
theorem dX0_opposite_69 : decode cX0_opposite 69 = .ok (.iload_n 2, 1) := by decide +kernel
theorem dX0_opposite_70 : decode cX0_opposite 70 = .ok (.iload_n 1, 1) := by decide +kernel
theorem dX0_opposite_71 : decode cX0_opposite 71 = .ok (.if_icmp .gt 184, 3) := by decide +kernel
theorem dX0_opposite_74 : decode cX0_opposite 74 = .ok (.aload_n 0, 1) := by decide +kernel
theorem dX0_opposite_75 : decode cX0_opposite 75 = .ok (.getfield 9, 3) := by decide +kernel
theorem dX0_opposite_78 : decode cX0_opposite 78 = .ok (.aload_n 0, 1) := by decide +kernel
theorem dX0_opposite_79 : decode cX0_opposite 79 = .ok (.getfield 21, 3) := by decide +kernel
theorem dX0_opposite_82 : decode cX0_opposite 82 = .ok (.iload_n 2, 1) := by decide +kernel
theorem dX0_opposite_83 : decode cX0_opposite 83 = .ok (.iconst 0, 1) := by decide +kernel
theorem dX0_opposite_84 : decode cX0_opposite 84 = .ok (.invokevirtual 43, 3) := by decide +kernel
theorem dX0_opposite_87 : decode cX0_opposite 87 = .ok (.iaload, 1) := by decide +kernel
theorem dX0_opposite_88 : decode cX0_opposite 88 = .ok (.istore_n 3, 1) := by decide +kernel
theorem dX0_opposite_89 : decode cX0_opposite 89 = .ok (.aload_n 0, 1) := by decide +kernel
theorem dX0_opposite_90 : decode cX0_opposite 90 = .ok (.getfield 9, 3) := by decide +kernel
theorem dX0_opposite_93 : decode cX0_opposite 93 = .ok (.aload_n 0, 1) := by decide +kernel
theorem dX0_opposite_94 : decode cX0_opposite 94 = .ok (.getfield 21, 3) := by decide +kernel
theorem dX0_opposite_97 : decode cX0_opposite 97 = .ok (.iload_n 2, 1) := by decide +kernel
theorem dX0_opposite_98 : decode cX0_opposite 98 = .ok (.aload_n 0, 1) := by decide +kernel
theorem dX0_opposite_99 : decode cX0_opposite 99 = .ok (.getfield 21, 3) := by decide +kernel
theorem dX0_opposite_102 : decode cX0_opposite 102 = .ok (.getfield 40, 3) := by decide +kernel
theorem dX0_opposite_105 : decode cX0_opposite 105 = .ok (.iload_n 2, 1) := by decide +kernel
theorem dX0_opposite_106 : decode cX0_opposite 106 = .ok (.iaload, 1) := by decide +kernel
theorem dX0_opposite_107 : decode cX0_opposite 107 = .ok (.iconst 1, 1) := by decide +kernel
theorem dX0_opposite_108 : decode cX0_opposite 108 = .ok (.isub, 1) := by decide +kernel
theorem dX0_opposite_109 : decode cX0_opposite 109 = .ok (.invokevirtual 43, 3) := by decide +kernel
theorem dX0_opposite_112 : decode cX0_opposite 112 = .ok (.iaload, 1) := by decide +kernel
theorem dX0_opposite_113 : decode cX0_opposite 113 = .ok (.istore 4, 2) := by decide +kernel
theorem dX0_opposite_115 : decode cX0_opposite 115 = .ok (.aload_n 0, 1) := by decide +kernel
theorem dX0_opposite_116 : decode cX0_opposite 116 = .ok (.getfield 21, 3) := by decide +kernel
theorem dX0_opposite_119 : decode cX0_opposite 119 = .ok (.getfield 35, 3) := by decide +kernel
theorem dX0_opposite_122 : decode cX0_opposite 122 = .ok (.iload_n 2, 1) := by decide +kernel
theorem dX0_opposite_123 : decode cX0_opposite 123 = .ok (.iaload, 1) := by decide +kernel
theorem dX0_opposite_124 : decode cX0_opposite 124 = .ok (.tableswitch 102 16 19 #[32, 49, 66, 84], 32) := by decide +kernel
theorem dX0_opposite_156 : decode cX0_opposite 156 = .ok (.aload_n 0, 1) := by decide +kernel
theorem dX0_opposite_157 : decode cX0_opposite 157 = .ok (.getfield 9, 3) := by decide +kernel
theorem dX0_opposite_160 : decode cX0_opposite 160 = .ok (.iload_n 2, 1) := by decide +kernel
theorem dX0_opposite_161 : decode cX0_opposite 161 = .ok (.aload_n 0, 1) := by decide +kernel
theorem dX0_opposite_162 : decode cX0_opposite 162 = .ok (.bipush 17, 2) := by decide +kernel
theorem dX0_opposite_164 : decode cX0_opposite 164 = .ok (.iload_n 3, 1) := by decide +kernel
theorem dX0_opposite_165 : decode cX0_opposite 165 = .ok (.iload_n 3, 1) := by decide +kernel
theorem dX0_opposite_166 : decode cX0_opposite 166 = .ok (.invokevirtual 81, 3) := by decide +kernel
theorem dX0_opposite_169 : decode cX0_opposite 169 = .ok (.iastore, 1) := by decide +kernel
theorem dX0_opposite_170 : decode cX0_opposite 170 = .ok (.goto 79, 3) := by decide +kernel
theorem dX0_opposite_173 : decode cX0_opposite 173 = .ok (.aload_n 0, 1) := by decide +kernel
theorem dX0_opposite_174 : decode cX0_opposite 174 = .ok (.getfield 9, 3) := by decide +kernel
theorem dX0_opposite_177 : decode cX0_opposite 177 = .ok (.iload_n 2, 1) := by decide +kernel
theorem dX0_opposite_178 : decode cX0_opposite 178 = .ok (.aload_n 0, 1) := by decide +kernel
theorem dX0_opposite_179 : decode cX0_opposite 179 = .ok (.bipush 16, 2) := by decide +kernel
theorem dX0_opposite_181 : decode cX0_opposite 181 = .ok (.iload_n 3, 1) := by decide +kernel
theorem dX0_opposite_182 : decode cX0_opposite 182 = .ok (.iload_n 3, 1) := by decide +kernel
theorem dX0_opposite_183 : decode cX0_opposite 183 = .ok (.invokevirtual 81, 3) := by decide +kernel
theorem dX0_opposite_186 : decode cX0_opposite 186 = .ok (.iastore, 1) := by decide +kernel
theorem dX0_opposite_187 : decode cX0_opposite 187 = .ok (.goto 62, 3) := by decide +kernel
theorem dX0_opposite_190 : decode cX0_opposite 190 = .ok (.aload_n 0, 1) := by decide +kernel
theorem dX0_opposite_191 : decode cX0_opposite 191 = .ok (.getfield 9, 3) := by decide +kernel
theorem dX0_opposite_194 : decode cX0_opposite 194 = .ok (.iload_n 2, 1) := by decide +kernel
theorem dX0_opposite_195 : decode cX0_opposite 195 = .ok (.aload_n 0, 1) := by decide +kernel
theorem dX0_opposite_196 : decode cX0_opposite 196 = .ok (.bipush 19, 2) := by decide +kernel
theorem dX0_opposite_198 : decode cX0_opposite 198 = .ok (.iload_n 3, 1) := by decide +kernel
theorem dX0_opposite_199 : decode cX0_opposite 199 = .ok (.iload 4, 2) := by decide +kernel
theorem dX0_opposite_201 : decode cX0_opposite 201 = .ok (.invokevirtual 81, 3) := by decide +kernel
theorem dX0_opposite_204 : decode cX0_opposite 204 = .ok (.iastore, 1) := by decide +kernel
theorem dX0_opposite_205 : decode cX0_opposite 205 = .ok (.goto 44, 3) := by decide +kernel
theorem dX0_opposite_208 : decode cX0_opposite 208 = .ok (.aload_n 0, 1) := by decide +kernel
theorem dX0_opposite_209 : decode cX0_opposite 209 = .ok (.getfield 9, 3) := by decide +kernel
theorem dX0_opposite_212 : decode cX0_opposite 212 = .ok (.iload_n 2, 1) := by decide +kernel
theorem dX0_opposite_213 : decode cX0_opposite 213 = .ok (.aload_n 0, 1) := by decide +kernel
theorem dX0_opposite_214 : decode cX0_opposite 214 = .ok (.bipush 18, 2) := by decide +kernel
theorem dX0_opposite_216 : decode cX0_opposite 216 = .ok (.iload_n 3, 1) := by decide +kernel
theorem dX0_opposite_217 : decode cX0_opposite 217 = .ok (.iload 4, 2) := by decide +kernel
theorem dX0_opposite_219 : decode cX0_opposite 219 = .ok (.invokevirtual 81, 3) := by decide +kernel
theorem dX0_opposite_222 : decode cX0_opposite 222 = .ok (.iastore, 1) := by decide +kernel
theorem dX0_opposite_223 : decode cX0_opposite 223 = .ok (.goto 26, 3) := by decide +kernel
theorem dX0_opposite_226 : decode cX0_opposite 226 = .ok (.aload_n 0, 1) := by decide +kernel
theorem dX0_opposite_227 : decode cX0_opposite 227 = .ok (.getfield 9, 3) := by decide +kernel
theorem dX0_opposite_230 : decode cX0_opposite 230 = .ok (.iload_n 2, 1) := by decide +kernel
theorem dX0_opposite_231 : decode cX0_opposite 231 = .ok (.aload_n 0, 1) := by decide +kernel
theorem dX0_opposite_232 : decode cX0_opposite 232 = .ok (.iload_n 2, 1) := by decide +kernel
theorem dX0_opposite_233 : decode cX0_opposite 233 = .ok (.bipush 41, 2) := by decide +kernel
theorem dX0_opposite_235 : decode cX0_opposite 235 = .ok (.aload_n 0, 1) := by decide +kernel
theorem dX0_opposite_236 : decode cX0_opposite 236 = .ok (.getfield 21, 3) := by decide +kernel
theorem dX0_opposite_239 : decode cX0_opposite 239 = .ok (.getfield 35, 3) := by decide +kernel
theorem dX0_opposite_242 : decode cX0_opposite 242 = .ok (.iload_n 2, 1) := by decide +kernel
theorem dX0_opposite_243 : decode cX0_opposite 243 = .ok (.iaload, 1) := by decide +kernel
theorem dX0_opposite_244 : decode cX0_opposite 244 = .ok (.isub, 1) := by decide +kernel
theorem dX0_opposite_245 : decode cX0_opposite 245 = .ok (.invokevirtual 78, 3) := by decide +kernel
theorem dX0_opposite_248 : decode cX0_opposite 248 = .ok (.iastore, 1) := by decide +kernel
theorem dX0_opposite_249 : decode cX0_opposite 249 = .ok (.iinc 2 1, 3) := by decide +kernel
theorem dX0_opposite_252 : decode cX0_opposite 252 = .ok (.goto (-183), 3) := by decide +kernel
theorem dX0_opposite_255 : decode cX0_opposite 255 = .ok (.aload_n 0, 1) := by decide +kernel
theorem dX0_opposite_256 : decode cX0_opposite 256 = .ok (.getfield 9, 3) := by decide +kernel
theorem dX0_opposite_259 : decode cX0_opposite 259 = .ok (.iload_n 1, 1) := by decide +kernel
theorem dX0_opposite_260 : decode cX0_opposite 260 = .ok (.iaload, 1) := by decide +kernel
theorem dX0_opposite_261 : decode cX0_opposite 261 = .ok (.ireturn, 1) := by decide +kernel
theorem dX0_joinKids_0 : decode cX0_joinKids 0 = .ok (.aload_n 0, 1) := by decide +kernel
theorem dX0_joinKids_1 : decode cX0_joinKids 1 = .ok (.iload_n 2, 1) := by decide +kernel
theorem dX0_joinKids_2 : decode cX0_joinKids 2 = .ok (.invokevirtual 64, 3) := by decide +kernel
theorem dX0_joinKids_5 : decode cX0_joinKids 5 = .ok (.iconst 0, 1) := by decide +kernel
theorem dX0_joinKids_6 : decode cX0_joinKids 6 = .ok (.istore_n 3, 1) := by decide +kernel
theorem dX0_joinKids_7 : decode cX0_joinKids 7 = .ok (.iload_n 3, 1) := by decide +kernel
theorem dX0_joinKids_8 : decode cX0_joinKids 8 = .ok (.aload_n 0, 1) := by decide +kernel
theorem dX0_joinKids_9 : decode cX0_joinKids 9 = .ok (.getfield 21, 3) := by decide +kernel
theorem dX0_joinKids_12 : decode cX0_joinKids 12 = .ok (.getfield 40, 3) := by decide +kernel
theorem dX0_joinKids_15 : decode cX0_joinKids 15 = .ok (.iload_n 1, 1) := by decide +kernel
theorem dX0_joinKids_16 : decode cX0_joinKids 16 = .ok (.iaload, 1) := by decide +kernel
theorem dX0_joinKids_17 : decode cX0_joinKids 17 = .ok (.if_icmp .ge 27, 3) := by decide +kernel
theorem dX0_joinKids_20 : decode cX0_joinKids 20 = .ok (.aload_n 0, 1) := by decide +kernel
theorem dX0_joinKids_21 : decode cX0_joinKids 21 = .ok (.aload_n 0, 1) := by decide +kernel
theorem dX0_joinKids_22 : decode cX0_joinKids 22 = .ok (.getfield 9, 3) := by decide +kernel
theorem dX0_joinKids_25 : decode cX0_joinKids 25 = .ok (.aload_n 0, 1) := by decide +kernel
theorem dX0_joinKids_26 : decode cX0_joinKids 26 = .ok (.getfield 21, 3) := by decide +kernel
theorem dX0_joinKids_29 : decode cX0_joinKids 29 = .ok (.iload_n 1, 1) := by decide +kernel
theorem dX0_joinKids_30 : decode cX0_joinKids 30 = .ok (.iload_n 3, 1) := by decide +kernel
theorem dX0_joinKids_31 : decode cX0_joinKids 31 = .ok (.invokevirtual 43, 3) := by decide +kernel
theorem dX0_joinKids_34 : decode cX0_joinKids 34 = .ok (.iaload, 1) := by decide +kernel
theorem dX0_joinKids_35 : decode cX0_joinKids 35 = .ok (.invokevirtual 68, 3) := by decide +kernel
theorem dX0_joinKids_38 : decode cX0_joinKids 38 = .ok (.iinc 3 1, 3) := by decide +kernel
theorem dX0_joinKids_41 : decode cX0_joinKids 41 = .ok (.goto (-34), 3) := by decide +kernel
theorem dX0_joinKids_44 : decode cX0_joinKids 44 = .ok (.aload_n 0, 1) := by decide +kernel
theorem dX0_joinKids_45 : decode cX0_joinKids 45 = .ok (.invokevirtual 71, 3) := by decide +kernel
theorem dX0_joinKids_48 : decode cX0_joinKids 48 = .ok (.ireturn, 1) := by decide +kernel
theorem dX1_init_0 : decode cX1_init 0 = .ok (.aload_n 0, 1) := by decide +kernel
theorem dX1_init_1 : decode cX1_init 1 = .ok (.invokespecial 3, 3) := by decide +kernel
theorem dX1_init_4 : decode cX1_init 4 = .ok (.aload_n 0, 1) := by decide +kernel
theorem dX1_init_5 : decode cX1_init 5 = .ok (.sipush 2048, 3) := by decide +kernel
theorem dX1_init_8 : decode cX1_init 8 = .ok (.newarray .int, 2) := by decide +kernel
theorem dX1_init_10 : decode cX1_init 10 = .ok (.putfield 9, 3) := by decide +kernel
theorem dX1_init_13 : decode cX1_init 13 = .ok (.aload_n 0, 1) := by decide +kernel
theorem dX1_init_14 : decode cX1_init 14 = .ok (.sipush 2048, 3) := by decide +kernel
theorem dX1_init_17 : decode cX1_init 17 = .ok (.newarray .int, 2) := by decide +kernel
theorem dX1_init_19 : decode cX1_init 19 = .ok (.putfield 15, 3) := by decide +kernel
theorem dX1_init_22 : decode cX1_init 22 = .ok (.aload_n 0, 1) := by decide +kernel
theorem dX1_init_23 : decode cX1_init 23 = .ok (.sipush 2048, 3) := by decide +kernel
theorem dX1_init_26 : decode cX1_init 26 = .ok (.newarray .int, 2) := by decide +kernel
theorem dX1_init_28 : decode cX1_init 28 = .ok (.putfield 18, 3) := by decide +kernel
theorem dX1_init_31 : decode cX1_init 31 = .ok (.aload_n 0, 1) := by decide +kernel
theorem dX1_init_32 : decode cX1_init 32 = .ok (.sipush 2048, 3) := by decide +kernel
theorem dX1_init_35 : decode cX1_init 35 = .ok (.newarray .int, 2) := by decide +kernel
theorem dX1_init_37 : decode cX1_init 37 = .ok (.putfield 21, 3) := by decide +kernel
theorem dX1_init_40 : decode cX1_init 40 = .ok (.aload_n 0, 1) := by decide +kernel
theorem dX1_init_41 : decode cX1_init 41 = .ok (.sipush 2048, 3) := by decide +kernel
theorem dX1_init_44 : decode cX1_init 44 = .ok (.newarray .int, 2) := by decide +kernel
theorem dX1_init_46 : decode cX1_init 46 = .ok (.putfield 24, 3) := by decide +kernel
theorem dX1_init_49 : decode cX1_init 49 = .ok (.aload_n 0, 1) := by decide +kernel
theorem dX1_init_50 : decode cX1_init 50 = .ok (.sipush 2048, 3) := by decide +kernel
theorem dX1_init_53 : decode cX1_init 53 = .ok (.newarray .boolean, 2) := by decide +kernel
theorem dX1_init_55 : decode cX1_init 55 = .ok (.putfield 27, 3) := by decide +kernel
theorem dX1_init_58 : decode cX1_init 58 = .ok (.aload_n 0, 1) := by decide +kernel
theorem dX1_init_59 : decode cX1_init 59 = .ok (.sipush 2048, 3) := by decide +kernel
theorem dX1_init_62 : decode cX1_init 62 = .ok (.newarray .char, 2) := by decide +kernel
theorem dX1_init_64 : decode cX1_init 64 = .ok (.putfield 31, 3) := by decide +kernel
theorem dX1_init_67 : decode cX1_init 67 = .ok (.aload_n 0, 1) := by decide +kernel
theorem dX1_init_68 : decode cX1_init 68 = .ok (.sipush 8192, 3) := by decide +kernel
theorem dX1_init_71 : decode cX1_init 71 = .ok (.newarray .int, 2) := by decide +kernel
theorem dX1_init_73 : decode cX1_init 73 = .ok (.putfield 35, 3) := by decide +kernel
theorem dX1_init_76 : decode cX1_init 76 = .ok (.aload_n 0, 1) := by decide +kernel
theorem dX1_init_77 : decode cX1_init 77 = .ok (.sipush 512, 3) := by decide +kernel
theorem dX1_init_80 : decode cX1_init 80 = .ok (.newarray .int, 2) := by decide +kernel
theorem dX1_init_82 : decode cX1_init 82 = .ok (.putfield 38, 3) := by decide +kernel
theorem dX1_init_85 : decode cX1_init 85 = .ok (.aload_n 0, 1) := by decide +kernel
theorem dX1_init_86 : decode cX1_init 86 = .ok (.sipush 2048, 3) := by decide +kernel
theorem dX1_init_89 : decode cX1_init 89 = .ok (.newarray .int, 2) := by decide +kernel
theorem dX1_init_91 : decode cX1_init 91 = .ok (.putfield 41, 3) := by decide +kernel
theorem dX1_init_94 : decode cX1_init 94 = .ok (.aload_n 0, 1) := by decide +kernel
theorem dX1_init_95 : decode cX1_init 95 = .ok (.sipush 2048, 3) := by decide +kernel
theorem dX1_init_98 : decode cX1_init 98 = .ok (.newarray .int, 2) := by decide +kernel
theorem dX1_init_100 : decode cX1_init 100 = .ok (.putfield 44, 3) := by decide +kernel
theorem dX1_init_103 : decode cX1_init 103 = .ok (.aload_n 0, 1) := by decide +kernel
theorem dX1_init_104 : decode cX1_init 104 = .ok (.bipush 16, 2) := by decide +kernel
theorem dX1_init_106 : decode cX1_init 106 = .ok (.putfield 47, 3) := by decide +kernel
theorem dX1_init_109 : decode cX1_init 109 = .ok (.iconst 0, 1) := by decide +kernel
theorem dX1_init_110 : decode cX1_init 110 = .ok (.istore_n 1, 1) := by decide +kernel
theorem dX1_init_111 : decode cX1_init 111 = .ok (.iload_n 1, 1) := by decide +kernel
theorem dX1_init_112 : decode cX1_init 112 = .ok (.bipush 16, 2) := by decide +kernel
theorem dX1_init_114 : decode cX1_init 114 = .ok (.if_icmp .ge 95, 3) := by decide +kernel
theorem dX1_init_117 : decode cX1_init 117 = .ok (.aload_n 0, 1) := by decide +kernel
theorem dX1_init_118 : decode cX1_init 118 = .ok (.getfield 9, 3) := by decide +kernel
theorem dX1_init_121 : decode cX1_init 121 = .ok (.iload_n 1, 1) := by decide +kernel
theorem dX1_init_122 : decode cX1_init 122 = .ok (.iload_n 1, 1) := by decide +kernel
theorem dX1_init_123 : decode cX1_init 123 = .ok (.iastore, 1) := by decide +kernel
theorem dX1_init_124 : decode cX1_init 124 = .ok (.aload_n 0, 1) := by decide +kernel
theorem dX1_init_125 : decode cX1_init 125 = .ok (.getfield 21, 3) := by decide +kernel
theorem dX1_init_128 : decode cX1_init 128 = .ok (.iload_n 1, 1) := by decide +kernel
theorem dX1_init_129 : decode cX1_init 129 = .ok (.iconst 1, 1) := by decide +kernel
theorem dX1_init_130 : decode cX1_init 130 = .ok (.iastore, 1) := by decide +kernel
theorem dX1_init_131 : decode cX1_init 131 = .ok (.aload_n 0, 1) := by decide +kernel
theorem dX1_init_132 : decode cX1_init 132 = .ok (.getfield 24, 3) := by decide +kernel
theorem dX1_init_135 : decode cX1_init 135 = .ok (.iload_n 1, 1) := by decide +kernel
theorem dX1_init_136 : decode cX1_init 136 = .ok (.iload_n 1, 1) := by decide +kernel
theorem dX1_init_137 : decode cX1_init 137 = .ok (.iconst 4, 1) := by decide +kernel
theorem dX1_init_138 : decode cX1_init 138 = .ok (.if_icmp .ge 7, 3) := by decide +kernel
theorem dX1_init_141 : decode cX1_init 141 = .ok (.iconst 0, 1) := by decide +kernel
theorem dX1_init_142 : decode cX1_init 142 = .ok (.goto 11, 3) := by decide +kernel
theorem dX1_init_145 : decode cX1_init 145 = .ok (.iconst 1, 1) := by decide +kernel
theorem dX1_init_146 : decode cX1_init 146 = .ok (.iload_n 1, 1) := by decide +kernel
theorem dX1_init_147 : decode cX1_init 147 = .ok (.iconst 4, 1) := by decide +kernel
theorem dX1_init_148 : decode cX1_init 148 = .ok (.isub, 1) := by decide +kernel
theorem dX1_init_149 : decode cX1_init 149 = .ok (.bipush 6, 2) := by decide +kernel
theorem dX1_init_151 : decode cX1_init 151 = .ok (.irem, 1) := by decide +kernel
theorem dX1_init_152 : decode cX1_init 152 = .ok (.ishl, 1) := by decide +kernel
theorem dX1_init_153 : decode cX1_init 153 = .ok (.iastore, 1) := by decide +kernel
theorem dX1_init_154 : decode cX1_init 154 = .ok (.aload_n 0, 1) := by decide +kernel
theorem dX1_init_155 : decode cX1_init 155 = .ok (.getfield 27, 3) := by decide +kernel
theorem dX1_init_158 : decode cX1_init 158 = .ok (.iload_n 1, 1) := by decide +kernel
theorem dX1_init_159 : decode cX1_init 159 = .ok (.iload_n 1, 1) := by decide +kernel
theorem dX1_init_160 : decode cX1_init 160 = .ok (.iconst 1, 1) := by decide +kernel
theorem dX1_init_161 : decode cX1_init 161 = .ok (.if_icmp .eq 14, 3) := by decide +kernel
theorem dX1_init_164 : decode cX1_init 164 = .ok (.iload_n 1, 1) := by decide +kernel
theorem dX1_init_165 : decode cX1_init 165 = .ok (.iconst 3, 1) := by decide +kernel
theorem dX1_init_166 : decode cX1_init 166 = .ok (.if_icmp .eq 9, 3) := by decide +kernel
theorem dX1_init_169 : decode cX1_init 169 = .ok (.iload_n 1, 1) := by decide +kernel
theorem dX1_init_170 : decode cX1_init 170 = .ok (.bipush 10, 2) := by decide +kernel
theorem dX1_init_172 : decode cX1_init 172 = .ok (.if_icmp .lt 7, 3) := by decide +kernel
theorem dX1_init_175 : decode cX1_init 175 = .ok (.iconst 1, 1) := by decide +kernel
theorem dX1_init_176 : decode cX1_init 176 = .ok (.goto 4, 3) := by decide +kernel
theorem dX1_init_179 : decode cX1_init 179 = .ok (.iconst 0, 1) := by decide +kernel
theorem dX1_init_180 : decode cX1_init 180 = .ok (.bastore, 1) := by decide +kernel
theorem dX1_init_181 : decode cX1_init 181 = .ok (.aload_n 0, 1) := by decide +kernel
theorem dX1_init_182 : decode cX1_init 182 = .ok (.getfield 31, 3) := by decide +kernel
theorem dX1_init_185 : decode cX1_init 185 = .ok (.iload_n 1, 1) := by decide +kernel
theorem dX1_init_186 : decode cX1_init 186 = .ok (.iload_n 1, 1) := by decide +kernel
theorem dX1_init_187 : decode cX1_init 187 = .ok (.bipush 10, 2) := by decide +kernel
theorem dX1_init_189 : decode cX1_init 189 = .ok (.if_icmp .lt 8, 3) := by decide +kernel
theorem dX1_init_192 : decode cX1_init 192 = .ok (.bipush 45, 2) := by decide +kernel
theorem dX1_init_194 : decode cX1_init 194 = .ok (.goto 8, 3) := by decide +kernel
theorem dX1_init_197 : decode cX1_init 197 = .ok (.getstatic 51, 3) := by decide +kernel
theorem dX1_init_200 : decode cX1_init 200 = .ok (.iload_n 1, 1) := by decide +kernel
theorem dX1_init_201 : decode cX1_init 201 = .ok (.caload, 1) := by decide +kernel
theorem dX1_init_202 : decode cX1_init 202 = .ok (.castore, 1) := by decide +kernel
theorem dX1_init_203 : decode cX1_init 203 = .ok (.iinc 1 1, 3) := by decide +kernel
theorem dX1_init_206 : decode cX1_init 206 = .ok (.goto (-95), 3) := by decide +kernel
theorem dX1_init_209 : decode cX1_init 209 = .ok (.return_, 1) := by decide +kernel
theorem dX1_kid_0 : decode cX1_kid 0 = .ok (.aload_n 0, 1) := by decide +kernel
theorem dX1_kid_1 : decode cX1_kid 1 = .ok (.getfield 35, 3) := by decide +kernel
theorem dX1_kid_4 : decode cX1_kid 4 = .ok (.aload_n 0, 1) := by decide +kernel
theorem dX1_kid_5 : decode cX1_kid 5 = .ok (.getfield 15, 3) := by decide +kernel
theorem dX1_kid_8 : decode cX1_kid 8 = .ok (.iload_n 1, 1) := by decide +kernel
theorem dX1_kid_9 : decode cX1_kid 9 = .ok (.iaload, 1) := by decide +kernel
theorem dX1_kid_10 : decode cX1_kid 10 = .ok (.iload_n 2, 1) := by decide +kernel
theorem dX1_kid_11 : decode cX1_kid 11 = .ok (.iadd, 1) := by decide +kernel
theorem dX1_kid_12 : decode cX1_kid 12 = .ok (.iaload, 1) := by decide +kernel
theorem dX1_kid_13 : decode cX1_kid 13 = .ok (.ireturn, 1) := by decide +kernel
theorem dX1_release_0 : decode cX1_release 0 = .ok (.aload_n 0, 1) := by decide +kernel
theorem dX1_release_1 : decode cX1_release 1 = .ok (.getfield 47, 3) := by decide +kernel
theorem dX1_release_4 : decode cX1_release 4 = .ok (.iconst 1, 1) := by decide +kernel
theorem dX1_release_5 : decode cX1_release 5 = .ok (.isub, 1) := by decide +kernel
theorem dX1_release_6 : decode cX1_release 6 = .ok (.istore_n 2, 1) := by decide +kernel
theorem dX1_release_7 : decode cX1_release 7 = .ok (.iload_n 2, 1) := by decide +kernel
theorem dX1_release_8 : decode cX1_release 8 = .ok (.iload_n 1, 1) := by decide +kernel
theorem dX1_release_9 : decode cX1_release 9 = .ok (.if_icmp .lt 47, 3) := by decide +kernel
theorem dX1_release_12 : decode cX1_release 12 = .ok (.iload_n 2, 1) := by decide +kernel
theorem dX1_release_13 : decode cX1_release 13 = .ok (.bipush 16, 2) := by decide +kernel
theorem dX1_release_15 : decode cX1_release 15 = .ok (.if_icmp .lt 41, 3) := by decide +kernel
theorem dX1_release_18 : decode cX1_release 18 = .ok (.aload_n 0, 1) := by decide +kernel
theorem dX1_release_19 : decode cX1_release 19 = .ok (.getfield 38, 3) := by decide +kernel
theorem dX1_release_22 : decode cX1_release 22 = .ok (.aload_n 0, 1) := by decide +kernel
theorem dX1_release_23 : decode cX1_release 23 = .ok (.getfield 44, 3) := by decide +kernel
theorem dX1_release_26 : decode cX1_release 26 = .ok (.iload_n 2, 1) := by decide +kernel
theorem dX1_release_27 : decode cX1_release 27 = .ok (.iaload, 1) := by decide +kernel
theorem dX1_release_28 : decode cX1_release 28 = .ok (.aload_n 0, 1) := by decide +kernel
theorem dX1_release_29 : decode cX1_release 29 = .ok (.getfield 41, 3) := by decide +kernel
theorem dX1_release_32 : decode cX1_release 32 = .ok (.iload_n 2, 1) := by decide +kernel
theorem dX1_release_33 : decode cX1_release 33 = .ok (.iaload, 1) := by decide +kernel
theorem dX1_release_34 : decode cX1_release 34 = .ok (.iastore, 1) := by decide +kernel
theorem dX1_release_35 : decode cX1_release 35 = .ok (.aload_n 0, 1) := by decide +kernel
theorem dX1_release_36 : decode cX1_release 36 = .ok (.aload_n 0, 1) := by decide +kernel
theorem dX1_release_37 : decode cX1_release 37 = .ok (.getfield 15, 3) := by decide +kernel
theorem dX1_release_40 : decode cX1_release 40 = .ok (.iload_n 2, 1) := by decide +kernel
theorem dX1_release_41 : decode cX1_release 41 = .ok (.iaload, 1) := by decide +kernel
theorem dX1_release_42 : decode cX1_release 42 = .ok (.putfield 54, 3) := by decide +kernel
theorem dX1_release_45 : decode cX1_release 45 = .ok (.aload_n 0, 1) := by decide +kernel
theorem dX1_release_46 : decode cX1_release 46 = .ok (.iload_n 2, 1) := by decide +kernel
theorem dX1_release_47 : decode cX1_release 47 = .ok (.putfield 47, 3) := by decide +kernel
theorem dX1_release_50 : decode cX1_release 50 = .ok (.iinc 2 (-1), 3) := by decide +kernel
theorem dX1_release_53 : decode cX1_release 53 = .ok (.goto (-46), 3) := by decide +kernel
theorem dX1_release_56 : decode cX1_release 56 = .ok (.return_, 1) := by decide +kernel
theorem dX1_make_0 : decode cX1_make 0 = .ok (.iload_n 3, 1) := by decide +kernel
theorem dX1_make_1 : decode cX1_make 1 = .ok (.ifCond .lt 12, 3) := by decide +kernel
theorem dX1_make_4 : decode cX1_make 4 = .ok (.iload 4, 2) := by decide +kernel
theorem dX1_make_6 : decode cX1_make 6 = .ok (.aload_n 2, 1) := by decide +kernel
theorem dX1_make_7 : decode cX1_make 7 = .ok (.arraylength, 1) := by decide +kernel
theorem dX1_make_8 : decode cX1_make 8 = .ok (.iload_n 3, 1) := by decide +kernel
theorem dX1_make_9 : decode cX1_make 9 = .ok (.isub, 1) := by decide +kernel
theorem dX1_make_10 : decode cX1_make 10 = .ok (.if_icmp .le 5, 3) := by decide +kernel
theorem dX1_make_13 : decode cX1_make 13 = .ok (.iconst 0, 1) := by decide +kernel
theorem dX1_make_14 : decode cX1_make 14 = .ok (.ireturn, 1) := by decide +kernel
theorem dX1_make_15 : decode cX1_make 15 = .ok (.iload_n 1, 1) := by decide +kernel
theorem dX1_make_16 : decode cX1_make 16 = .ok (.istore 5, 2) := by decide +kernel
theorem dX1_make_18 : decode cX1_make 18 = .ok (.iconst 0, 1) := by decide +kernel
theorem dX1_make_19 : decode cX1_make 19 = .ok (.istore 6, 2) := by decide +kernel
theorem dX1_make_21 : decode cX1_make 21 = .ok (.iload 6, 2) := by decide +kernel
theorem dX1_make_23 : decode cX1_make 23 = .ok (.iload 4, 2) := by decide +kernel
theorem dX1_make_25 : decode cX1_make 25 = .ok (.if_icmp .ge 23, 3) := by decide +kernel
theorem dX1_make_28 : decode cX1_make 28 = .ok (.iload 5, 2) := by decide +kernel
theorem dX1_make_30 : decode cX1_make 30 = .ok (.bipush 31, 2) := by decide +kernel
theorem dX1_make_32 : decode cX1_make 32 = .ok (.imul, 1) := by decide +kernel
theorem dX1_make_33 : decode cX1_make 33 = .ok (.aload_n 2, 1) := by decide +kernel
theorem dX1_make_34 : decode cX1_make 34 = .ok (.iload_n 3, 1) := by decide +kernel
theorem dX1_make_35 : decode cX1_make 35 = .ok (.iload 6, 2) := by decide +kernel
theorem dX1_make_37 : decode cX1_make 37 = .ok (.iadd, 1) := by decide +kernel
theorem dX1_make_38 : decode cX1_make 38 = .ok (.iaload, 1) := by decide +kernel
theorem dX1_make_39 : decode cX1_make 39 = .ok (.iadd, 1) := by decide +kernel
theorem dX1_make_40 : decode cX1_make 40 = .ok (.istore 5, 2) := by decide +kernel
theorem dX1_make_42 : decode cX1_make 42 = .ok (.iinc 6 1, 3) := by decide +kernel
theorem dX1_make_45 : decode cX1_make 45 = .ok (.goto (-24), 3) := by decide +kernel
theorem dX1_make_48 : decode cX1_make 48 = .ok (.iload 5, 2) := by decide +kernel
theorem dX1_make_50 : decode cX1_make 50 = .ok (.iload 5, 2) := by decide +kernel
theorem dX1_make_52 : decode cX1_make 52 = .ok (.bipush 9, 2) := by decide +kernel
theorem dX1_make_54 : decode cX1_make 54 = .ok (.iushr, 1) := by decide +kernel
theorem dX1_make_55 : decode cX1_make 55 = .ok (.ixor, 1) := by decide +kernel
theorem dX1_make_56 : decode cX1_make 56 = .ok (.sipush 511, 3) := by decide +kernel
theorem dX1_make_59 : decode cX1_make 59 = .ok (.iand, 1) := by decide +kernel
theorem dX1_make_60 : decode cX1_make 60 = .ok (.istore 6, 2) := by decide +kernel
theorem dX1_make_62 : decode cX1_make 62 = .ok (.aload_n 0, 1) := by decide +kernel
theorem dX1_make_63 : decode cX1_make 63 = .ok (.getfield 38, 3) := by decide +kernel
theorem dX1_make_66 : decode cX1_make 66 = .ok (.iload 6, 2) := by decide +kernel
theorem dX1_make_68 : decode cX1_make 68 = .ok (.iaload, 1) := by decide +kernel
theorem dX1_make_69 : decode cX1_make 69 = .ok (.istore 7, 2) := by decide +kernel
theorem dX1_make_71 : decode cX1_make 71 = .ok (.iconst 0, 1) := by decide +kernel
theorem dX1_make_72 : decode cX1_make 72 = .ok (.istore 8, 2) := by decide +kernel
theorem dX1_make_74 : decode cX1_make 74 = .ok (.iload 8, 2) := by decide +kernel
theorem dX1_make_76 : decode cX1_make 76 = .ok (.sipush 2048, 3) := by decide +kernel
theorem dX1_make_79 : decode cX1_make 79 = .ok (.if_icmp .ge 40, 3) := by decide +kernel
theorem dX1_make_82 : decode cX1_make 82 = .ok (.iload 7, 2) := by decide +kernel
theorem dX1_make_84 : decode cX1_make 84 = .ok (.ifCond .eq 35, 3) := by decide +kernel
theorem dX1_make_87 : decode cX1_make 87 = .ok (.aload_n 0, 1) := by decide +kernel
theorem dX1_make_88 : decode cX1_make 88 = .ok (.iload 7, 2) := by decide +kernel
theorem dX1_make_90 : decode cX1_make 90 = .ok (.iload_n 1, 1) := by decide +kernel
theorem dX1_make_91 : decode cX1_make 91 = .ok (.aload_n 2, 1) := by decide +kernel
theorem dX1_make_92 : decode cX1_make 92 = .ok (.iload_n 3, 1) := by decide +kernel
theorem dX1_make_93 : decode cX1_make 93 = .ok (.iload 4, 2) := by decide +kernel
theorem dX1_make_95 : decode cX1_make 95 = .ok (.invokevirtual 57, 3) := by decide +kernel
theorem dX1_make_98 : decode cX1_make 98 = .ok (.ifCond .eq 6, 3) := by decide +kernel
theorem dX1_make_101 : decode cX1_make 101 = .ok (.iload 7, 2) := by decide +kernel
theorem dX1_make_103 : decode cX1_make 103 = .ok (.ireturn, 1) := by decide +kernel
theorem dX1_make_104 : decode cX1_make 104 = .ok (.aload_n 0, 1) := by decide +kernel
theorem dX1_make_105 : decode cX1_make 105 = .ok (.getfield 41, 3) := by decide +kernel
theorem dX1_make_108 : decode cX1_make 108 = .ok (.iload 7, 2) := by decide +kernel
theorem dX1_make_110 : decode cX1_make 110 = .ok (.iaload, 1) := by decide +kernel
theorem dX1_make_111 : decode cX1_make 111 = .ok (.istore 7, 2) := by decide +kernel
theorem dX1_make_113 : decode cX1_make 113 = .ok (.iinc 8 1, 3) := by decide +kernel
theorem dX1_make_116 : decode cX1_make 116 = .ok (.goto (-42), 3) := by decide +kernel
theorem dX1_make_119 : decode cX1_make 119 = .ok (.aload_n 0, 1) := by decide +kernel
theorem dX1_make_120 : decode cX1_make 120 = .ok (.getfield 47, 3) := by decide +kernel
theorem dX1_make_123 : decode cX1_make 123 = .ok (.sipush 2048, 3) := by decide +kernel
theorem dX1_make_126 : decode cX1_make 126 = .ok (.if_icmp .ge 16, 3) := by decide +kernel
theorem dX1_make_129 : decode cX1_make 129 = .ok (.iload 4, 2) := by decide +kernel
theorem dX1_make_131 : decode cX1_make 131 = .ok (.sipush 8192, 3) := by decide +kernel
theorem dX1_make_134 : decode cX1_make 134 = .ok (.aload_n 0, 1) := by decide +kernel
theorem dX1_make_135 : decode cX1_make 135 = .ok (.getfield 54, 3) := by decide +kernel
theorem dX1_make_138 : decode cX1_make 138 = .ok (.isub, 1) := by decide +kernel
theorem dX1_make_139 : decode cX1_make 139 = .ok (.if_icmp .le 5, 3) := by decide +kernel
theorem dX1_make_142 : decode cX1_make 142 = .ok (.iconst 0, 1) := by decide +kernel
theorem dX1_make_143 : decode cX1_make 143 = .ok (.ireturn, 1) := by decide +kernel
theorem dX1_make_144 : decode cX1_make 144 = .ok (.aload_n 0, 1) := by decide +kernel
theorem dX1_make_145 : decode cX1_make 145 = .ok (.getfield 47, 3) := by decide +kernel
theorem dX1_make_148 : decode cX1_make 148 = .ok (.istore 8, 2) := by decide +kernel
theorem dX1_make_150 : decode cX1_make 150 = .ok (.aload_n 0, 1) := by decide +kernel
theorem dX1_make_151 : decode cX1_make 151 = .ok (.dup, 1) := by decide +kernel
theorem dX1_make_152 : decode cX1_make 152 = .ok (.getfield 47, 3) := by decide +kernel
theorem dX1_make_155 : decode cX1_make 155 = .ok (.iconst 1, 1) := by decide +kernel
theorem dX1_make_156 : decode cX1_make 156 = .ok (.iadd, 1) := by decide +kernel
theorem dX1_make_157 : decode cX1_make 157 = .ok (.putfield 47, 3) := by decide +kernel
theorem dX1_make_160 : decode cX1_make 160 = .ok (.aload_n 0, 1) := by decide +kernel
theorem dX1_make_161 : decode cX1_make 161 = .ok (.getfield 44, 3) := by decide +kernel
theorem dX1_make_164 : decode cX1_make 164 = .ok (.iload 8, 2) := by decide +kernel
theorem dX1_make_166 : decode cX1_make 166 = .ok (.iload 6, 2) := by decide +kernel
theorem dX1_make_168 : decode cX1_make 168 = .ok (.iastore, 1) := by decide +kernel
theorem dX1_make_169 : decode cX1_make 169 = .ok (.aload_n 0, 1) := by decide +kernel
theorem dX1_make_170 : decode cX1_make 170 = .ok (.getfield 41, 3) := by decide +kernel
theorem dX1_make_173 : decode cX1_make 173 = .ok (.iload 8, 2) := by decide +kernel
theorem dX1_make_175 : decode cX1_make 175 = .ok (.aload_n 0, 1) := by decide +kernel
theorem dX1_make_176 : decode cX1_make 176 = .ok (.getfield 38, 3) := by decide +kernel
theorem dX1_make_179 : decode cX1_make 179 = .ok (.iload 6, 2) := by decide +kernel
theorem dX1_make_181 : decode cX1_make 181 = .ok (.iaload, 1) := by decide +kernel
theorem dX1_make_182 : decode cX1_make 182 = .ok (.iastore, 1) := by decide +kernel
theorem dX1_make_183 : decode cX1_make 183 = .ok (.aload_n 0, 1) := by decide +kernel
theorem dX1_make_184 : decode cX1_make 184 = .ok (.getfield 38, 3) := by decide +kernel
theorem dX1_make_187 : decode cX1_make 187 = .ok (.iload 6, 2) := by decide +kernel
theorem dX1_make_189 : decode cX1_make 189 = .ok (.iload 8, 2) := by decide +kernel
theorem dX1_make_191 : decode cX1_make 191 = .ok (.iastore, 1) := by decide +kernel
theorem dX1_make_192 : decode cX1_make 192 = .ok (.aload_n 0, 1) := by decide +kernel
theorem dX1_make_193 : decode cX1_make 193 = .ok (.getfield 9, 3) := by decide +kernel
theorem dX1_make_196 : decode cX1_make 196 = .ok (.iload 8, 2) := by decide +kernel
theorem dX1_make_198 : decode cX1_make 198 = .ok (.iload_n 1, 1) := by decide +kernel
theorem dX1_make_199 : decode cX1_make 199 = .ok (.iastore, 1) := by decide +kernel
theorem dX1_make_200 : decode cX1_make 200 = .ok (.aload_n 0, 1) := by decide +kernel
theorem dX1_make_201 : decode cX1_make 201 = .ok (.getfield 15, 3) := by decide +kernel
theorem dX1_make_204 : decode cX1_make 204 = .ok (.iload 8, 2) := by decide +kernel
theorem dX1_make_206 : decode cX1_make 206 = .ok (.aload_n 0, 1) := by decide +kernel
theorem dX1_make_207 : decode cX1_make 207 = .ok (.getfield 54, 3) := by decide +kernel
theorem dX1_make_210 : decode cX1_make 210 = .ok (.iastore, 1) := by decide +kernel
theorem dX1_make_211 : decode cX1_make 211 = .ok (.aload_n 0, 1) := by decide +kernel
theorem dX1_make_212 : decode cX1_make 212 = .ok (.getfield 18, 3) := by decide +kernel
theorem dX1_make_215 : decode cX1_make 215 = .ok (.iload 8, 2) := by decide +kernel
theorem dX1_make_217 : decode cX1_make 217 = .ok (.iload 4, 2) := by decide +kernel
theorem dX1_make_219 : decode cX1_make 219 = .ok (.iastore, 1) := by decide +kernel
theorem dX1_make_220 : decode cX1_make 220 = .ok (.aload_n 2, 1) := by decide +kernel
theorem dX1_make_221 : decode cX1_make 221 = .ok (.iload_n 3, 1) := by decide +kernel
theorem dX1_make_222 : decode cX1_make 222 = .ok (.aload_n 0, 1) := by decide +kernel
theorem dX1_make_223 : decode cX1_make 223 = .ok (.getfield 35, 3) := by decide +kernel
theorem dX1_make_226 : decode cX1_make 226 = .ok (.aload_n 0, 1) := by decide +kernel
theorem dX1_make_227 : decode cX1_make 227 = .ok (.getfield 54, 3) := by decide +kernel
theorem dX1_make_230 : decode cX1_make 230 = .ok (.iload 4, 2) := by decide +kernel
theorem dX1_make_232 : decode cX1_make 232 = .ok (.invokestatic 61, 3) := by decide +kernel
theorem dX1_make_235 : decode cX1_make 235 = .ok (.aload_n 0, 1) := by decide +kernel
theorem dX1_make_236 : decode cX1_make 236 = .ok (.dup, 1) := by decide +kernel
theorem dX1_make_237 : decode cX1_make 237 = .ok (.getfield 54, 3) := by decide +kernel
theorem dX1_make_240 : decode cX1_make 240 = .ok (.iload 4, 2) := by decide +kernel
theorem dX1_make_242 : decode cX1_make 242 = .ok (.iadd, 1) := by decide +kernel
theorem dX1_make_243 : decode cX1_make 243 = .ok (.putfield 54, 3) := by decide +kernel
theorem dX1_make_246 : decode cX1_make 246 = .ok (.aload_n 0, 1) := by decide +kernel
theorem dX1_make_247 : decode cX1_make 247 = .ok (.iload 8, 2) := by decide +kernel
theorem dX1_make_249 : decode cX1_make 249 = .ok (.invokevirtual 67, 3) := by decide +kernel
theorem dX1_make_252 : decode cX1_make 252 = .ok (.iload 8, 2) := by decide +kernel
theorem dX1_make_254 : decode cX1_make 254 = .ok (.ireturn, 1) := by decide +kernel
theorem dX1_isMadeOf_0 : decode cX1_isMadeOf 0 = .ok (.aload_n 0, 1) := by decide +kernel
theorem dX1_isMadeOf_1 : decode cX1_isMadeOf 1 = .ok (.getfield 9, 3) := by decide +kernel
theorem dX1_isMadeOf_4 : decode cX1_isMadeOf 4 = .ok (.iload_n 1, 1) := by decide +kernel
theorem dX1_isMadeOf_5 : decode cX1_isMadeOf 5 = .ok (.iaload, 1) := by decide +kernel
theorem dX1_isMadeOf_6 : decode cX1_isMadeOf 6 = .ok (.iload_n 2, 1) := by decide +kernel
theorem dX1_isMadeOf_7 : decode cX1_isMadeOf 7 = .ok (.if_icmp .ne 14, 3) := by decide +kernel
theorem dX1_isMadeOf_10 : decode cX1_isMadeOf 10 = .ok (.aload_n 0, 1) := by decide +kernel
theorem dX1_isMadeOf_11 : decode cX1_isMadeOf 11 = .ok (.getfield 18, 3) := by decide +kernel
theorem dX1_isMadeOf_14 : decode cX1_isMadeOf 14 = .ok (.iload_n 1, 1) := by decide +kernel
theorem dX1_isMadeOf_15 : decode cX1_isMadeOf 15 = .ok (.iaload, 1) := by decide +kernel
theorem dX1_isMadeOf_16 : decode cX1_isMadeOf 16 = .ok (.iload 5, 2) := by decide +kernel
theorem dX1_isMadeOf_18 : decode cX1_isMadeOf 18 = .ok (.if_icmp .eq 5, 3) := by decide +kernel
theorem dX1_isMadeOf_21 : decode cX1_isMadeOf 21 = .ok (.iconst 0, 1) := by decide +kernel
theorem dX1_isMadeOf_22 : decode cX1_isMadeOf 22 = .ok (.ireturn, 1) := by decide +kernel
theorem dX1_isMadeOf_23 : decode cX1_isMadeOf 23 = .ok (.iconst 0, 1) := by decide +kernel
theorem dX1_isMadeOf_24 : decode cX1_isMadeOf 24 = .ok (.istore 6, 2) := by decide +kernel
theorem dX1_isMadeOf_26 : decode cX1_isMadeOf 26 = .ok (.iload 6, 2) := by decide +kernel
theorem dX1_isMadeOf_28 : decode cX1_isMadeOf 28 = .ok (.iload 5, 2) := by decide +kernel
theorem dX1_isMadeOf_30 : decode cX1_isMadeOf 30 = .ok (.if_icmp .ge 35, 3) := by decide +kernel
theorem dX1_isMadeOf_33 : decode cX1_isMadeOf 33 = .ok (.aload_n 0, 1) := by decide +kernel
theorem dX1_isMadeOf_34 : decode cX1_isMadeOf 34 = .ok (.getfield 35, 3) := by decide +kernel
theorem dX1_isMadeOf_37 : decode cX1_isMadeOf 37 = .ok (.aload_n 0, 1) := by decide +kernel
theorem dX1_isMadeOf_38 : decode cX1_isMadeOf 38 = .ok (.getfield 15, 3) := by decide +kernel
theorem dX1_isMadeOf_41 : decode cX1_isMadeOf 41 = .ok (.iload_n 1, 1) := by decide +kernel
theorem dX1_isMadeOf_42 : decode cX1_isMadeOf 42 = .ok (.iaload, 1) := by decide +kernel
theorem dX1_isMadeOf_43 : decode cX1_isMadeOf 43 = .ok (.iload 6, 2) := by decide +kernel
theorem dX1_isMadeOf_45 : decode cX1_isMadeOf 45 = .ok (.iadd, 1) := by decide +kernel
theorem dX1_isMadeOf_46 : decode cX1_isMadeOf 46 = .ok (.iaload, 1) := by decide +kernel
theorem dX1_isMadeOf_47 : decode cX1_isMadeOf 47 = .ok (.aload_n 3, 1) := by decide +kernel
theorem dX1_isMadeOf_48 : decode cX1_isMadeOf 48 = .ok (.iload 4, 2) := by decide +kernel
theorem dX1_isMadeOf_50 : decode cX1_isMadeOf 50 = .ok (.iload 6, 2) := by decide +kernel
theorem dX1_isMadeOf_52 : decode cX1_isMadeOf 52 = .ok (.iadd, 1) := by decide +kernel
theorem dX1_isMadeOf_53 : decode cX1_isMadeOf 53 = .ok (.iaload, 1) := by decide +kernel
theorem dX1_isMadeOf_54 : decode cX1_isMadeOf 54 = .ok (.if_icmp .eq 5, 3) := by decide +kernel
theorem dX1_isMadeOf_57 : decode cX1_isMadeOf 57 = .ok (.iconst 0, 1) := by decide +kernel
theorem dX1_isMadeOf_58 : decode cX1_isMadeOf 58 = .ok (.ireturn, 1) := by decide +kernel
theorem dX1_isMadeOf_59 : decode cX1_isMadeOf 59 = .ok (.iinc 6 1, 3) := by decide +kernel
theorem dX1_isMadeOf_62 : decode cX1_isMadeOf 62 = .ok (.goto (-36), 3) := by decide +kernel
theorem dX1_isMadeOf_65 : decode cX1_isMadeOf 65 = .ok (.iconst 1, 1) := by decide +kernel
theorem dX1_isMadeOf_66 : decode cX1_isMadeOf 66 = .ok (.ireturn, 1) := by decide +kernel
theorem dX1_describe_0 : decode cX1_describe 0 = .ok (.aload_n 0, 1) := by decide +kernel
theorem dX1_describe_1 : decode cX1_describe 1 = .ok (.getfield 9, 3) := by decide +kernel
theorem dX1_describe_4 : decode cX1_describe 4 = .ok (.iload_n 1, 1) := by decide +kernel
theorem dX1_describe_5 : decode cX1_describe 5 = .ok (.iaload, 1) := by decide +kernel
theorem dX1_describe_6 : decode cX1_describe 6 = .ok (.istore_n 2, 1) := by decide +kernel
theorem dX1_describe_7 : decode cX1_describe 7 = .ok (.iconst 1, 1) := by decide +kernel
theorem dX1_describe_8 : decode cX1_describe 8 = .ok (.istore_n 3, 1) := by decide +kernel
theorem dX1_describe_9 : decode cX1_describe 9 = .ok (.iconst 0, 1) := by decide +kernel
theorem dX1_describe_10 : decode cX1_describe 10 = .ok (.istore 4, 2) := by decide +kernel
theorem dX1_describe_12 : decode cX1_describe 12 = .ok (.iconst 1, 1) := by decide +kernel
theorem dX1_describe_13 : decode cX1_describe 13 = .ok (.istore 5, 2) := by decide +kernel
theorem dX1_describe_15 : decode cX1_describe 15 = .ok (.iconst 0, 1) := by decide +kernel
theorem dX1_describe_16 : decode cX1_describe 16 = .ok (.istore 6, 2) := by decide +kernel
theorem dX1_describe_18 : decode cX1_describe 18 = .ok (.aload_n 0, 1) := by decide +kernel
theorem dX1_describe_19 : decode cX1_describe 19 = .ok (.getfield 15, 3) := by decide +kernel
theorem dX1_describe_22 : decode cX1_describe 22 = .ok (.iload_n 1, 1) := by decide +kernel
theorem dX1_describe_23 : decode cX1_describe 23 = .ok (.iaload, 1) := by decide +kernel
theorem dX1_describe_24 : decode cX1_describe 24 = .ok (.istore 7, 2) := by decide +kernel
theorem dX1_describe_26 : decode cX1_describe 26 = .ok (.iload 7, 2) := by decide +kernel
theorem dX1_describe_28 : decode cX1_describe 28 = .ok (.aload_n 0, 1) := by decide +kernel
theorem dX1_describe_29 : decode cX1_describe 29 = .ok (.getfield 54, 3) := by decide +kernel
theorem dX1_describe_32 : decode cX1_describe 32 = .ok (.if_icmp .ge 64, 3) := by decide +kernel
theorem dX1_describe_35 : decode cX1_describe 35 = .ok (.aload_n 0, 1) := by decide +kernel
theorem dX1_describe_36 : decode cX1_describe 36 = .ok (.getfield 35, 3) := by decide +kernel
theorem dX1_describe_39 : decode cX1_describe 39 = .ok (.iload 7, 2) := by decide +kernel
theorem dX1_describe_41 : decode cX1_describe 41 = .ok (.iaload, 1) := by decide +kernel
theorem dX1_describe_42 : decode cX1_describe 42 = .ok (.istore 8, 2) := by decide +kernel
theorem dX1_describe_44 : decode cX1_describe 44 = .ok (.iload_n 3, 1) := by decide +kernel
theorem dX1_describe_45 : decode cX1_describe 45 = .ok (.aload_n 0, 1) := by decide +kernel
theorem dX1_describe_46 : decode cX1_describe 46 = .ok (.getfield 21, 3) := by decide +kernel
theorem dX1_describe_49 : decode cX1_describe 49 = .ok (.iload 8, 2) := by decide +kernel
theorem dX1_describe_51 : decode cX1_describe 51 = .ok (.iaload, 1) := by decide +kernel
theorem dX1_describe_52 : decode cX1_describe 52 = .ok (.iadd, 1) := by decide +kernel
theorem dX1_describe_53 : decode cX1_describe 53 = .ok (.istore_n 3, 1) := by decide +kernel
theorem dX1_describe_54 : decode cX1_describe 54 = .ok (.iload 4, 2) := by decide +kernel
theorem dX1_describe_56 : decode cX1_describe 56 = .ok (.aload_n 0, 1) := by decide +kernel
theorem dX1_describe_57 : decode cX1_describe 57 = .ok (.getfield 24, 3) := by decide +kernel
theorem dX1_describe_60 : decode cX1_describe 60 = .ok (.iload 8, 2) := by decide +kernel
theorem dX1_describe_62 : decode cX1_describe 62 = .ok (.iaload, 1) := by decide +kernel
theorem dX1_describe_63 : decode cX1_describe 63 = .ok (.ior, 1) := by decide +kernel
theorem dX1_describe_64 : decode cX1_describe 64 = .ok (.istore 4, 2) := by decide +kernel
theorem dX1_describe_66 : decode cX1_describe 66 = .ok (.iload 5, 2) := by decide +kernel
theorem dX1_describe_68 : decode cX1_describe 68 = .ok (.aload_n 0, 1) := by decide +kernel
theorem dX1_describe_69 : decode cX1_describe 69 = .ok (.getfield 27, 3) := by decide +kernel
theorem dX1_describe_72 : decode cX1_describe 72 = .ok (.iload 8, 2) := by decide +kernel
theorem dX1_describe_74 : decode cX1_describe 74 = .ok (.baload, 1) := by decide +kernel
theorem dX1_describe_75 : decode cX1_describe 75 = .ok (.iand, 1) := by decide +kernel
theorem dX1_describe_76 : decode cX1_describe 76 = .ok (.istore 5, 2) := by decide +kernel
theorem dX1_describe_78 : decode cX1_describe 78 = .ok (.iload 6, 2) := by decide +kernel
theorem dX1_describe_80 : decode cX1_describe 80 = .ok (.aload_n 0, 1) := by decide +kernel
theorem dX1_describe_81 : decode cX1_describe 81 = .ok (.getfield 27, 3) := by decide +kernel
theorem dX1_describe_84 : decode cX1_describe 84 = .ok (.iload 8, 2) := by decide +kernel
theorem dX1_describe_86 : decode cX1_describe 86 = .ok (.baload, 1) := by decide +kernel
theorem dX1_describe_87 : decode cX1_describe 87 = .ok (.ior, 1) := by decide +kernel
theorem dX1_describe_88 : decode cX1_describe 88 = .ok (.istore 6, 2) := by decide +kernel
theorem dX1_describe_90 : decode cX1_describe 90 = .ok (.iinc 7 1, 3) := by decide +kernel
theorem dX1_describe_93 : decode cX1_describe 93 = .ok (.goto (-67), 3) := by decide +kernel
theorem dX1_describe_96 : decode cX1_describe 96 = .ok (.aload_n 0, 1) := by decide +kernel
theorem dX1_describe_97 : decode cX1_describe 97 = .ok (.getfield 21, 3) := by decide +kernel
theorem dX1_describe_100 : decode cX1_describe 100 = .ok (.iload_n 1, 1) := by decide +kernel
theorem dX1_describe_101 : decode cX1_describe 101 = .ok (.iload_n 3, 1) := by decide +kernel
theorem dX1_describe_102 : decode cX1_describe 102 = .ok (.iastore, 1) := by decide +kernel
theorem dX1_describe_103 : decode cX1_describe 103 = .ok (.aload_n 0, 1) := by decide +kernel
theorem dX1_describe_104 : decode cX1_describe 104 = .ok (.getfield 24, 3) := by decide +kernel
theorem dX1_describe_107 : decode cX1_describe 107 = .ok (.iload_n 1, 1) := by decide +kernel
theorem dX1_describe_108 : decode cX1_describe 108 = .ok (.iload 4, 2) := by decide +kernel
theorem dX1_describe_110 : decode cX1_describe 110 = .ok (.iastore, 1) := by decide +kernel
theorem dX1_describe_111 : decode cX1_describe 111 = .ok (.aload_n 0, 1) := by decide +kernel
theorem dX1_describe_112 : decode cX1_describe 112 = .ok (.getfield 31, 3) := by decide +kernel
theorem dX1_describe_115 : decode cX1_describe 115 = .ok (.iload_n 1, 1) := by decide +kernel
theorem dX1_describe_116 : decode cX1_describe 116 = .ok (.iload_n 2, 1) := by decide +kernel
theorem dX1_describe_117 : decode cX1_describe 117 = .ok (.bipush 16, 2) := by decide +kernel
theorem dX1_describe_119 : decode cX1_describe 119 = .ok (.if_icmp .ne 8, 3) := by decide +kernel
theorem dX1_describe_122 : decode cX1_describe 122 = .ok (.bipush 88, 2) := by decide +kernel
theorem dX1_describe_124 : decode cX1_describe 124 = .ok (.goto 16, 3) := by decide +kernel
theorem dX1_describe_127 : decode cX1_describe 127 = .ok (.iload_n 2, 1) := by decide +kernel
theorem dX1_describe_128 : decode cX1_describe 128 = .ok (.bipush 17, 2) := by decide +kernel
theorem dX1_describe_130 : decode cX1_describe 130 = .ok (.if_icmp .ne 8, 3) := by decide +kernel
theorem dX1_describe_133 : decode cX1_describe 133 = .ok (.bipush 78, 2) := by decide +kernel
theorem dX1_describe_135 : decode cX1_describe 135 = .ok (.goto 5, 3) := by decide +kernel
theorem dX1_describe_138 : decode cX1_describe 138 = .ok (.bipush 40, 2) := by decide +kernel
theorem dX1_describe_140 : decode cX1_describe 140 = .ok (.castore, 1) := by decide +kernel
theorem dX1_describe_141 : decode cX1_describe 141 = .ok (.aload_n 0, 1) := by decide +kernel
theorem dX1_describe_142 : decode cX1_describe 142 = .ok (.getfield 27, 3) := by decide +kernel
theorem dX1_describe_145 : decode cX1_describe 145 = .ok (.iload_n 1, 1) := by decide +kernel
theorem dX1_describe_146 : decode cX1_describe 146 = .ok (.iload_n 2, 1) := by decide +kernel
theorem dX1_describe_147 : decode cX1_describe 147 = .ok (.bipush 17, 2) := by decide +kernel
theorem dX1_describe_149 : decode cX1_describe 149 = .ok (.if_icmp .eq 31, 3) := by decide +kernel
theorem dX1_describe_152 : decode cX1_describe 152 = .ok (.iload_n 2, 1) := by decide +kernel
theorem dX1_describe_153 : decode cX1_describe 153 = .ok (.bipush 19, 2) := by decide +kernel
theorem dX1_describe_155 : decode cX1_describe 155 = .ok (.if_icmp .eq 25, 3) := by decide +kernel
theorem dX1_describe_158 : decode cX1_describe 158 = .ok (.iload_n 2, 1) := by decide +kernel
theorem dX1_describe_159 : decode cX1_describe 159 = .ok (.bipush 20, 2) := by decide +kernel
theorem dX1_describe_161 : decode cX1_describe 161 = .ok (.if_icmp .ne 8, 3) := by decide +kernel
theorem dX1_describe_164 : decode cX1_describe 164 = .ok (.iload 5, 2) := by decide +kernel
theorem dX1_describe_166 : decode cX1_describe 166 = .ok (.ifCond .ne 14, 3) := by decide +kernel
theorem dX1_describe_169 : decode cX1_describe 169 = .ok (.iload_n 2, 1) := by decide +kernel
theorem dX1_describe_170 : decode cX1_describe 170 = .ok (.bipush 21, 2) := by decide +kernel
theorem dX1_describe_172 : decode cX1_describe 172 = .ok (.if_icmp .ne 12, 3) := by decide +kernel
theorem dX1_describe_175 : decode cX1_describe 175 = .ok (.iload 6, 2) := by decide +kernel
theorem dX1_describe_177 : decode cX1_describe 177 = .ok (.ifCond .eq 7, 3) := by decide +kernel
theorem dX1_describe_180 : decode cX1_describe 180 = .ok (.iconst 1, 1) := by decide +kernel
theorem dX1_describe_181 : decode cX1_describe 181 = .ok (.goto 4, 3) := by decide +kernel
theorem dX1_describe_184 : decode cX1_describe 184 = .ok (.iconst 0, 1) := by decide +kernel
theorem dX1_describe_185 : decode cX1_describe 185 = .ok (.bastore, 1) := by decide +kernel
theorem dX1_describe_186 : decode cX1_describe 186 = .ok (.return_, 1) := by decide +kernel
theorem dX1_order_0 : decode cX1_order 0 = .ok (.iload_n 1, 1) := by decide +kernel
theorem dX1_order_1 : decode cX1_order 1 = .ok (.istore_n 3, 1) := by decide +kernel
theorem dX1_order_2 : decode cX1_order 2 = .ok (.iload_n 2, 1) := by decide +kernel
theorem dX1_order_3 : decode cX1_order 3 = .ok (.istore 4, 2) := by decide +kernel
theorem dX1_order_5 : decode cX1_order 5 = .ok (.iconst 0, 1) := by decide +kernel
theorem dX1_order_6 : decode cX1_order 6 = .ok (.istore 5, 2) := by decide +kernel
theorem dX1_order_8 : decode cX1_order 8 = .ok (.iload 5, 2) := by decide +kernel
theorem dX1_order_10 : decode cX1_order 10 = .ok (.sipush 2048, 3) := by decide +kernel
theorem dX1_order_13 : decode cX1_order 13 = .ok (.if_icmp .ge 293, 3) := by decide +kernel
theorem dX1_order_16 : decode cX1_order 16 = .ok (.iload_n 3, 1) := by decide +kernel
theorem dX1_order_17 : decode cX1_order 17 = .ok (.iload 4, 2) := by decide +kernel
theorem dX1_order_19 : decode cX1_order 19 = .ok (.if_icmp .eq 287, 3) := by decide +kernel
theorem dX1_order_22 : decode cX1_order 22 = .ok (.aload_n 0, 1) := by decide +kernel
theorem dX1_order_23 : decode cX1_order 23 = .ok (.getfield 31, 3) := by decide +kernel
theorem dX1_order_26 : decode cX1_order 26 = .ok (.iload_n 3, 1) := by decide +kernel
theorem dX1_order_27 : decode cX1_order 27 = .ok (.caload, 1) := by decide +kernel
theorem dX1_order_28 : decode cX1_order 28 = .ok (.aload_n 0, 1) := by decide +kernel
theorem dX1_order_29 : decode cX1_order 29 = .ok (.getfield 31, 3) := by decide +kernel
theorem dX1_order_32 : decode cX1_order 32 = .ok (.iload 4, 2) := by decide +kernel
theorem dX1_order_34 : decode cX1_order 34 = .ok (.caload, 1) := by decide +kernel
theorem dX1_order_35 : decode cX1_order 35 = .ok (.if_icmp .eq 18, 3) := by decide +kernel
theorem dX1_order_38 : decode cX1_order 38 = .ok (.aload_n 0, 1) := by decide +kernel
theorem dX1_order_39 : decode cX1_order 39 = .ok (.getfield 31, 3) := by decide +kernel
theorem dX1_order_42 : decode cX1_order 42 = .ok (.iload_n 3, 1) := by decide +kernel
theorem dX1_order_43 : decode cX1_order 43 = .ok (.caload, 1) := by decide +kernel
theorem dX1_order_44 : decode cX1_order 44 = .ok (.aload_n 0, 1) := by decide +kernel
theorem dX1_order_45 : decode cX1_order 45 = .ok (.getfield 31, 3) := by decide +kernel
theorem dX1_order_48 : decode cX1_order 48 = .ok (.iload 4, 2) := by decide +kernel
theorem dX1_order_50 : decode cX1_order 50 = .ok (.caload, 1) := by decide +kernel
theorem dX1_order_51 : decode cX1_order 51 = .ok (.isub, 1) := by decide +kernel
theorem dX1_order_52 : decode cX1_order 52 = .ok (.ireturn, 1) := by decide +kernel
theorem dX1_order_53 : decode cX1_order 53 = .ok (.iload_n 3, 1) := by decide +kernel
theorem dX1_order_54 : decode cX1_order 54 = .ok (.bipush 16, 2) := by decide +kernel
theorem dX1_order_56 : decode cX1_order 56 = .ok (.if_icmp .lt 10, 3) := by decide +kernel
theorem dX1_order_59 : decode cX1_order 59 = .ok (.iload 4, 2) := by decide +kernel
theorem dX1_order_61 : decode cX1_order 61 = .ok (.bipush 16, 2) := by decide +kernel
theorem dX1_order_63 : decode cX1_order 63 = .ok (.if_icmp .ge 8, 3) := by decide +kernel
theorem dX1_order_66 : decode cX1_order 66 = .ok (.iload_n 3, 1) := by decide +kernel
theorem dX1_order_67 : decode cX1_order 67 = .ok (.iload 4, 2) := by decide +kernel
theorem dX1_order_69 : decode cX1_order 69 = .ok (.isub, 1) := by decide +kernel
theorem dX1_order_70 : decode cX1_order 70 = .ok (.ireturn, 1) := by decide +kernel
theorem dX1_order_71 : decode cX1_order 71 = .ok (.aload_n 0, 1) := by decide +kernel
theorem dX1_order_72 : decode cX1_order 72 = .ok (.getfield 18, 3) := by decide +kernel
theorem dX1_order_75 : decode cX1_order 75 = .ok (.iload_n 3, 1) := by decide +kernel
theorem dX1_order_76 : decode cX1_order 76 = .ok (.iaload, 1) := by decide +kernel
theorem dX1_order_77 : decode cX1_order 77 = .ok (.aload_n 0, 1) := by decide +kernel
theorem dX1_order_78 : decode cX1_order 78 = .ok (.getfield 18, 3) := by decide +kernel
theorem dX1_order_81 : decode cX1_order 81 = .ok (.iload 4, 2) := by decide +kernel
theorem dX1_order_83 : decode cX1_order 83 = .ok (.iaload, 1) := by decide +kernel
theorem dX1_order_84 : decode cX1_order 84 = .ok (.if_icmp .ge 12, 3) := by decide +kernel
theorem dX1_order_87 : decode cX1_order 87 = .ok (.aload_n 0, 1) := by decide +kernel
theorem dX1_order_88 : decode cX1_order 88 = .ok (.getfield 18, 3) := by decide +kernel
theorem dX1_order_91 : decode cX1_order 91 = .ok (.iload_n 3, 1) := by decide +kernel
theorem dX1_order_92 : decode cX1_order 92 = .ok (.iaload, 1) := by decide +kernel
theorem dX1_order_93 : decode cX1_order 93 = .ok (.goto 10, 3) := by decide +kernel
theorem dX1_order_96 : decode cX1_order 96 = .ok (.aload_n 0, 1) := by decide +kernel
theorem dX1_order_97 : decode cX1_order 97 = .ok (.getfield 18, 3) := by decide +kernel
theorem dX1_order_100 : decode cX1_order 100 = .ok (.iload 4, 2) := by decide +kernel
theorem dX1_order_102 : decode cX1_order 102 = .ok (.iaload, 1) := by decide +kernel
theorem dX1_order_103 : decode cX1_order 103 = .ok (.istore 6, 2) := by decide +kernel
theorem dX1_order_105 : decode cX1_order 105 = .ok (.iconst 0, 1) := by decide +kernel
theorem dX1_order_106 : decode cX1_order 106 = .ok (.istore 7, 2) := by decide +kernel
theorem dX1_order_108 : decode cX1_order 108 = .ok (.iload 7, 2) := by decide +kernel
theorem dX1_order_110 : decode cX1_order 110 = .ok (.iload 6, 2) := by decide +kernel
theorem dX1_order_112 : decode cX1_order 112 = .ok (.if_icmp .ge 41, 3) := by decide +kernel
theorem dX1_order_115 : decode cX1_order 115 = .ok (.aload_n 0, 1) := by decide +kernel
theorem dX1_order_116 : decode cX1_order 116 = .ok (.getfield 35, 3) := by decide +kernel
theorem dX1_order_119 : decode cX1_order 119 = .ok (.aload_n 0, 1) := by decide +kernel
theorem dX1_order_120 : decode cX1_order 120 = .ok (.getfield 15, 3) := by decide +kernel
theorem dX1_order_123 : decode cX1_order 123 = .ok (.iload_n 3, 1) := by decide +kernel
theorem dX1_order_124 : decode cX1_order 124 = .ok (.iaload, 1) := by decide +kernel
theorem dX1_order_125 : decode cX1_order 125 = .ok (.iload 7, 2) := by decide +kernel
theorem dX1_order_127 : decode cX1_order 127 = .ok (.iadd, 1) := by decide +kernel
theorem dX1_order_128 : decode cX1_order 128 = .ok (.iaload, 1) := by decide +kernel
theorem dX1_order_129 : decode cX1_order 129 = .ok (.aload_n 0, 1) := by decide +kernel
theorem dX1_order_130 : decode cX1_order 130 = .ok (.getfield 35, 3) := by decide +kernel
theorem dX1_order_133 : decode cX1_order 133 = .ok (.aload_n 0, 1) := by decide +kernel
theorem dX1_order_134 : decode cX1_order 134 = .ok (.getfield 15, 3) := by decide +kernel
theorem dX1_order_137 : decode cX1_order 137 = .ok (.iload 4, 2) := by decide +kernel
theorem dX1_order_139 : decode cX1_order 139 = .ok (.iaload, 1) := by decide +kernel
theorem dX1_order_140 : decode cX1_order 140 = .ok (.iload 7, 2) := by decide +kernel
theorem dX1_order_142 : decode cX1_order 142 = .ok (.iadd, 1) := by decide +kernel
theorem dX1_order_143 : decode cX1_order 143 = .ok (.iaload, 1) := by decide +kernel
theorem dX1_order_144 : decode cX1_order 144 = .ok (.if_icmp .ne 9, 3) := by decide +kernel
theorem dX1_order_147 : decode cX1_order 147 = .ok (.iinc 7 1, 3) := by decide +kernel
theorem dX1_order_150 : decode cX1_order 150 = .ok (.goto (-42), 3) := by decide +kernel
theorem dX1_order_153 : decode cX1_order 153 = .ok (.iload 7, 2) := by decide +kernel
theorem dX1_order_155 : decode cX1_order 155 = .ok (.ifCond .le 42, 3) := by decide +kernel
theorem dX1_order_158 : decode cX1_order 158 = .ok (.aload_n 0, 1) := by decide +kernel
theorem dX1_order_159 : decode cX1_order 159 = .ok (.getfield 9, 3) := by decide +kernel
theorem dX1_order_162 : decode cX1_order 162 = .ok (.iload_n 3, 1) := by decide +kernel
theorem dX1_order_163 : decode cX1_order 163 = .ok (.iaload, 1) := by decide +kernel
theorem dX1_order_164 : decode cX1_order 164 = .ok (.aload_n 0, 1) := by decide +kernel
theorem dX1_order_165 : decode cX1_order 165 = .ok (.getfield 9, 3) := by decide +kernel
theorem dX1_order_168 : decode cX1_order 168 = .ok (.iload 4, 2) := by decide +kernel
theorem dX1_order_170 : decode cX1_order 170 = .ok (.iaload, 1) := by decide +kernel
theorem dX1_order_171 : decode cX1_order 171 = .ok (.if_icmp .eq 26, 3) := by decide +kernel
theorem dX1_order_174 : decode cX1_order 174 = .ok (.getstatic 71, 3) := by decide +kernel
theorem dX1_order_177 : decode cX1_order 177 = .ok (.aload_n 0, 1) := by decide +kernel
theorem dX1_order_178 : decode cX1_order 178 = .ok (.getfield 9, 3) := by decide +kernel
theorem dX1_order_181 : decode cX1_order 181 = .ok (.iload_n 3, 1) := by decide +kernel
theorem dX1_order_182 : decode cX1_order 182 = .ok (.iaload, 1) := by decide +kernel
theorem dX1_order_183 : decode cX1_order 183 = .ok (.caload, 1) := by decide +kernel
theorem dX1_order_184 : decode cX1_order 184 = .ok (.getstatic 71, 3) := by decide +kernel
theorem dX1_order_187 : decode cX1_order 187 = .ok (.aload_n 0, 1) := by decide +kernel
theorem dX1_order_188 : decode cX1_order 188 = .ok (.getfield 9, 3) := by decide +kernel
theorem dX1_order_191 : decode cX1_order 191 = .ok (.iload 4, 2) := by decide +kernel
theorem dX1_order_193 : decode cX1_order 193 = .ok (.iaload, 1) := by decide +kernel
theorem dX1_order_194 : decode cX1_order 194 = .ok (.caload, 1) := by decide +kernel
theorem dX1_order_195 : decode cX1_order 195 = .ok (.isub, 1) := by decide +kernel
theorem dX1_order_196 : decode cX1_order 196 = .ok (.ireturn, 1) := by decide +kernel
theorem dX1_order_197 : decode cX1_order 197 = .ok (.iload 7, 2) := by decide +kernel
theorem dX1_order_199 : decode cX1_order 199 = .ok (.iload 6, 2) := by decide +kernel
theorem dX1_order_201 : decode cX1_order 201 = .ok (.if_icmp .ne 67, 3) := by decide +kernel
theorem dX1_order_204 : decode cX1_order 204 = .ok (.aload_n 0, 1) := by decide +kernel
theorem dX1_order_205 : decode cX1_order 205 = .ok (.getfield 18, 3) := by decide +kernel
theorem dX1_order_208 : decode cX1_order 208 = .ok (.iload_n 3, 1) := by decide +kernel
theorem dX1_order_209 : decode cX1_order 209 = .ok (.iaload, 1) := by decide +kernel
theorem dX1_order_210 : decode cX1_order 210 = .ok (.iload 6, 2) := by decide +kernel
theorem dX1_order_212 : decode cX1_order 212 = .ok (.if_icmp .ne 8, 3) := by decide +kernel
theorem dX1_order_215 : decode cX1_order 215 = .ok (.bipush 41, 2) := by decide +kernel
theorem dX1_order_217 : decode cX1_order 217 = .ok (.goto 13, 3) := by decide +kernel
theorem dX1_order_220 : decode cX1_order 220 = .ok (.getstatic 71, 3) := by decide +kernel
theorem dX1_order_223 : decode cX1_order 223 = .ok (.aload_n 0, 1) := by decide +kernel
theorem dX1_order_224 : decode cX1_order 224 = .ok (.getfield 9, 3) := by decide +kernel
theorem dX1_order_227 : decode cX1_order 227 = .ok (.iload_n 3, 1) := by decide +kernel
theorem dX1_order_228 : decode cX1_order 228 = .ok (.iaload, 1) := by decide +kernel
theorem dX1_order_229 : decode cX1_order 229 = .ok (.caload, 1) := by decide +kernel
theorem dX1_order_230 : decode cX1_order 230 = .ok (.istore 8, 2) := by decide +kernel
theorem dX1_order_232 : decode cX1_order 232 = .ok (.aload_n 0, 1) := by decide +kernel
theorem dX1_order_233 : decode cX1_order 233 = .ok (.getfield 18, 3) := by decide +kernel
theorem dX1_order_236 : decode cX1_order 236 = .ok (.iload 4, 2) := by decide +kernel
theorem dX1_order_238 : decode cX1_order 238 = .ok (.iaload, 1) := by decide +kernel
theorem dX1_order_239 : decode cX1_order 239 = .ok (.iload 6, 2) := by decide +kernel
theorem dX1_order_241 : decode cX1_order 241 = .ok (.if_icmp .ne 8, 3) := by decide +kernel
theorem dX1_order_244 : decode cX1_order 244 = .ok (.bipush 41, 2) := by decide +kernel
theorem dX1_order_246 : decode cX1_order 246 = .ok (.goto 14, 3) := by decide +kernel
theorem dX1_order_249 : decode cX1_order 249 = .ok (.getstatic 71, 3) := by decide +kernel
theorem dX1_order_252 : decode cX1_order 252 = .ok (.aload_n 0, 1) := by decide +kernel
theorem dX1_order_253 : decode cX1_order 253 = .ok (.getfield 9, 3) := by decide +kernel
theorem dX1_order_256 : decode cX1_order 256 = .ok (.iload 4, 2) := by decide +kernel
theorem dX1_order_258 : decode cX1_order 258 = .ok (.iaload, 1) := by decide +kernel
theorem dX1_order_259 : decode cX1_order 259 = .ok (.caload, 1) := by decide +kernel
theorem dX1_order_260 : decode cX1_order 260 = .ok (.istore 9, 2) := by decide +kernel
theorem dX1_order_262 : decode cX1_order 262 = .ok (.iload 8, 2) := by decide +kernel
theorem dX1_order_264 : decode cX1_order 264 = .ok (.iload 9, 2) := by decide +kernel
theorem dX1_order_266 : decode cX1_order 266 = .ok (.isub, 1) := by decide +kernel
theorem dX1_order_267 : decode cX1_order 267 = .ok (.ireturn, 1) := by decide +kernel
theorem dX1_order_268 : decode cX1_order 268 = .ok (.aload_n 0, 1) := by decide +kernel
theorem dX1_order_269 : decode cX1_order 269 = .ok (.getfield 35, 3) := by decide +kernel
theorem dX1_order_272 : decode cX1_order 272 = .ok (.aload_n 0, 1) := by decide +kernel
theorem dX1_order_273 : decode cX1_order 273 = .ok (.getfield 15, 3) := by decide +kernel
theorem dX1_order_276 : decode cX1_order 276 = .ok (.iload_n 3, 1) := by decide +kernel
theorem dX1_order_277 : decode cX1_order 277 = .ok (.iaload, 1) := by decide +kernel
theorem dX1_order_278 : decode cX1_order 278 = .ok (.iload 7, 2) := by decide +kernel
theorem dX1_order_280 : decode cX1_order 280 = .ok (.iadd, 1) := by decide +kernel
theorem dX1_order_281 : decode cX1_order 281 = .ok (.iaload, 1) := by decide +kernel
theorem dX1_order_282 : decode cX1_order 282 = .ok (.istore_n 3, 1) := by decide +kernel
theorem dX1_order_283 : decode cX1_order 283 = .ok (.aload_n 0, 1) := by decide +kernel
theorem dX1_order_284 : decode cX1_order 284 = .ok (.getfield 35, 3) := by decide +kernel
theorem dX1_order_287 : decode cX1_order 287 = .ok (.aload_n 0, 1) := by decide +kernel
theorem dX1_order_288 : decode cX1_order 288 = .ok (.getfield 15, 3) := by decide +kernel
theorem dX1_order_291 : decode cX1_order 291 = .ok (.iload 4, 2) := by decide +kernel
theorem dX1_order_293 : decode cX1_order 293 = .ok (.iaload, 1) := by decide +kernel
theorem dX1_order_294 : decode cX1_order 294 = .ok (.iload 7, 2) := by decide +kernel
theorem dX1_order_296 : decode cX1_order 296 = .ok (.iadd, 1) := by decide +kernel
theorem dX1_order_297 : decode cX1_order 297 = .ok (.iaload, 1) := by decide +kernel
theorem dX1_order_298 : decode cX1_order 298 = .ok (.istore 4, 2) := by decide +kernel
theorem dX1_order_300 : decode cX1_order 300 = .ok (.iinc 5 1, 3) := by decide +kernel
theorem dX1_order_303 : decode cX1_order 303 = .ok (.goto (-295), 3) := by decide +kernel
theorem dX1_order_306 : decode cX1_order 306 = .ok (.iconst 0, 1) := by decide +kernel
theorem dX1_order_307 : decode cX1_order 307 = .ok (.ireturn, 1) := by decide +kernel
theorem dX2_init_0 : decode cX2_init 0 = .ok (.aload_n 0, 1) := by decide +kernel
theorem dX2_init_1 : decode cX2_init 1 = .ok (.invokespecial 3, 3) := by decide +kernel
theorem dX2_init_4 : decode cX2_init 4 = .ok (.aload_n 0, 1) := by decide +kernel
theorem dX2_init_5 : decode cX2_init 5 = .ok (.bipush 60, 2) := by decide +kernel
theorem dX2_init_7 : decode cX2_init 7 = .ok (.newarray .char, 2) := by decide +kernel
theorem dX2_init_9 : decode cX2_init 9 = .ok (.putfield 9, 3) := by decide +kernel
theorem dX2_init_12 : decode cX2_init 12 = .ok (.aload_n 0, 1) := by decide +kernel
theorem dX2_init_13 : decode cX2_init 13 = .ok (.bipush 60, 2) := by decide +kernel
theorem dX2_init_15 : decode cX2_init 15 = .ok (.newarray .int, 2) := by decide +kernel
theorem dX2_init_17 : decode cX2_init 17 = .ok (.putfield 15, 3) := by decide +kernel
theorem dX2_init_20 : decode cX2_init 20 = .ok (.aload_n 0, 1) := by decide +kernel
theorem dX2_init_21 : decode cX2_init 21 = .ok (.bipush 60, 2) := by decide +kernel
theorem dX2_init_23 : decode cX2_init 23 = .ok (.newarray .char, 2) := by decide +kernel
theorem dX2_init_25 : decode cX2_init 25 = .ok (.putfield 19, 3) := by decide +kernel
theorem dX2_init_28 : decode cX2_init 28 = .ok (.aload_n 0, 1) := by decide +kernel
theorem dX2_init_29 : decode cX2_init 29 = .ok (.aload_n 1, 1) := by decide +kernel
theorem dX2_init_30 : decode cX2_init 30 = .ok (.putfield 22, 3) := by decide +kernel
theorem dX2_init_33 : decode cX2_init 33 = .ok (.aload_n 0, 1) := by decide +kernel
theorem dX2_init_34 : decode cX2_init 34 = .ok (.aload_n 2, 1) := by decide +kernel
theorem dX2_init_35 : decode cX2_init 35 = .ok (.putfield 26, 3) := by decide +kernel
theorem dX2_init_38 : decode cX2_init 38 = .ok (.return_, 1) := by decide +kernel
theorem dX2_append_0 : decode cX2_append 0 = .ok (.aload_n 0, 1) := by decide +kernel
theorem dX2_append_1 : decode cX2_append 1 = .ok (.getfield 30, 3) := by decide +kernel
theorem dX2_append_4 : decode cX2_append 4 = .ok (.bipush 60, 2) := by decide +kernel
theorem dX2_append_6 : decode cX2_append 6 = .ok (.if_icmp .lt 5, 3) := by decide +kernel
theorem dX2_append_9 : decode cX2_append 9 = .ok (.iconst 0, 1) := by decide +kernel
theorem dX2_append_10 : decode cX2_append 10 = .ok (.ireturn, 1) := by decide +kernel
theorem dX2_append_11 : decode cX2_append 11 = .ok (.aload_n 0, 1) := by decide +kernel
theorem dX2_append_12 : decode cX2_append 12 = .ok (.getfield 9, 3) := by decide +kernel
theorem dX2_append_15 : decode cX2_append 15 = .ok (.aload_n 0, 1) := by decide +kernel
theorem dX2_append_16 : decode cX2_append 16 = .ok (.getfield 30, 3) := by decide +kernel
theorem dX2_append_19 : decode cX2_append 19 = .ok (.iload_n 1, 1) := by decide +kernel
theorem dX2_append_20 : decode cX2_append 20 = .ok (.castore, 1) := by decide +kernel
theorem dX2_append_21 : decode cX2_append 21 = .ok (.aload_n 0, 1) := by decide +kernel
theorem dX2_append_22 : decode cX2_append 22 = .ok (.dup, 1) := by decide +kernel
theorem dX2_append_23 : decode cX2_append 23 = .ok (.getfield 30, 3) := by decide +kernel
theorem dX2_append_26 : decode cX2_append 26 = .ok (.iconst 1, 1) := by decide +kernel
theorem dX2_append_27 : decode cX2_append 27 = .ok (.iadd, 1) := by decide +kernel
theorem dX2_append_28 : decode cX2_append 28 = .ok (.putfield 30, 3) := by decide +kernel
theorem dX2_append_31 : decode cX2_append 31 = .ok (.iconst 1, 1) := by decide +kernel
theorem dX2_append_32 : decode cX2_append 32 = .ok (.ireturn, 1) := by decide +kernel
theorem dX2_findFault_0 : decode cX2_findFault 0 = .ok (.iconst 1, 1) := by decide +kernel
theorem dX2_findFault_1 : decode cX2_findFault 1 = .ok (.istore_n 1, 1) := by decide +kernel
theorem dX2_findFault_2 : decode cX2_findFault 2 = .ok (.iconst 0, 1) := by decide +kernel
theorem dX2_findFault_3 : decode cX2_findFault 3 = .ok (.istore_n 2, 1) := by decide +kernel
theorem dX2_findFault_4 : decode cX2_findFault 4 = .ok (.iconst 0, 1) := by decide +kernel
theorem dX2_findFault_5 : decode cX2_findFault 5 = .ok (.istore_n 3, 1) := by decide +kernel
theorem dX2_findFault_6 : decode cX2_findFault 6 = .ok (.iload_n 3, 1) := by decide +kernel
theorem dX2_findFault_7 : decode cX2_findFault 7 = .ok (.aload_n 0, 1) := by decide +kernel
theorem dX2_findFault_8 : decode cX2_findFault 8 = .ok (.getfield 30, 3) := by decide +kernel
theorem dX2_findFault_11 : decode cX2_findFault 11 = .ok (.if_icmp .ge 94, 3) := by decide +kernel
theorem dX2_findFault_14 : decode cX2_findFault 14 = .ok (.aload_n 0, 1) := by decide +kernel
theorem dX2_findFault_15 : decode cX2_findFault 15 = .ok (.getfield 9, 3) := by decide +kernel
theorem dX2_findFault_18 : decode cX2_findFault 18 = .ok (.iload_n 3, 1) := by decide +kernel
theorem dX2_findFault_19 : decode cX2_findFault 19 = .ok (.caload, 1) := by decide +kernel
theorem dX2_findFault_20 : decode cX2_findFault 20 = .ok (.istore 4, 2) := by decide +kernel
theorem dX2_findFault_22 : decode cX2_findFault 22 = .ok (.iload_n 1, 1) := by decide +kernel
theorem dX2_findFault_23 : decode cX2_findFault 23 = .ok (.ifCond .eq 44, 3) := by decide +kernel
theorem dX2_findFault_26 : decode cX2_findFault 26 = .ok (.iload 4, 2) := by decide +kernel
theorem dX2_findFault_28 : decode cX2_findFault 28 = .ok (.bipush 40, 2) := by decide +kernel
theorem dX2_findFault_30 : decode cX2_findFault 30 = .ok (.if_icmp .ne 14, 3) := by decide +kernel
theorem dX2_findFault_33 : decode cX2_findFault 33 = .ok (.iload_n 2, 1) := by decide +kernel
theorem dX2_findFault_34 : decode cX2_findFault 34 = .ok (.iconst 4, 1) := by decide +kernel
theorem dX2_findFault_35 : decode cX2_findFault 35 = .ok (.if_icmp .ge 9, 3) := by decide +kernel
theorem dX2_findFault_38 : decode cX2_findFault 38 = .ok (.iinc 2 1, 3) := by decide +kernel
theorem dX2_findFault_41 : decode cX2_findFault 41 = .ok (.goto 58, 3) := by decide +kernel
theorem dX2_findFault_44 : decode cX2_findFault 44 = .ok (.iload 4, 2) := by decide +kernel
theorem dX2_findFault_46 : decode cX2_findFault 46 = .ok (.invokestatic 34, 3) := by decide +kernel
theorem dX2_findFault_49 : decode cX2_findFault 49 = .ok (.ifCond .eq 8, 3) := by decide +kernel
theorem dX2_findFault_52 : decode cX2_findFault 52 = .ok (.iconst 0, 1) := by decide +kernel
theorem dX2_findFault_53 : decode cX2_findFault 53 = .ok (.istore_n 1, 1) := by decide +kernel
theorem dX2_findFault_54 : decode cX2_findFault 54 = .ok (.goto 45, 3) := by decide +kernel
theorem dX2_findFault_57 : decode cX2_findFault 57 = .ok (.iload 4, 2) := by decide +kernel
theorem dX2_findFault_59 : decode cX2_findFault 59 = .ok (.invokestatic 38, 3) := by decide +kernel
theorem dX2_findFault_62 : decode cX2_findFault 62 = .ok (.ifCond .ne 37, 3) := by decide +kernel
theorem dX2_findFault_65 : decode cX2_findFault 65 = .ok (.iload_n 3, 1) := by decide +kernel
theorem dX2_findFault_66 : decode cX2_findFault 66 = .ok (.ireturn, 1) := by decide +kernel
theorem dX2_findFault_67 : decode cX2_findFault 67 = .ok (.iload 4, 2) := by decide +kernel
theorem dX2_findFault_69 : decode cX2_findFault 69 = .ok (.bipush 41, 2) := by decide +kernel
theorem dX2_findFault_71 : decode cX2_findFault 71 = .ok (.if_icmp .ne 13, 3) := by decide +kernel
theorem dX2_findFault_74 : decode cX2_findFault 74 = .ok (.iload_n 2, 1) := by decide +kernel
theorem dX2_findFault_75 : decode cX2_findFault 75 = .ok (.ifCond .le 9, 3) := by decide +kernel
theorem dX2_findFault_78 : decode cX2_findFault 78 = .ok (.iinc 2 (-1), 3) := by decide +kernel
theorem dX2_findFault_81 : decode cX2_findFault 81 = .ok (.goto 18, 3) := by decide +kernel
theorem dX2_findFault_84 : decode cX2_findFault 84 = .ok (.iload 4, 2) := by decide +kernel
theorem dX2_findFault_86 : decode cX2_findFault 86 = .ok (.invokestatic 41, 3) := by decide +kernel
theorem dX2_findFault_89 : decode cX2_findFault 89 = .ok (.ifCond .eq 8, 3) := by decide +kernel
theorem dX2_findFault_92 : decode cX2_findFault 92 = .ok (.iconst 1, 1) := by decide +kernel
theorem dX2_findFault_93 : decode cX2_findFault 93 = .ok (.istore_n 1, 1) := by decide +kernel
theorem dX2_findFault_94 : decode cX2_findFault 94 = .ok (.goto 5, 3) := by decide +kernel
theorem dX2_findFault_97 : decode cX2_findFault 97 = .ok (.iload_n 3, 1) := by decide +kernel
theorem dX2_findFault_98 : decode cX2_findFault 98 = .ok (.ireturn, 1) := by decide +kernel
theorem dX2_findFault_99 : decode cX2_findFault 99 = .ok (.iinc 3 1, 3) := by decide +kernel
theorem dX2_findFault_102 : decode cX2_findFault 102 = .ok (.goto (-96), 3) := by decide +kernel
theorem dX2_findFault_105 : decode cX2_findFault 105 = .ok (.iload_n 1, 1) := by decide +kernel
theorem dX2_findFault_106 : decode cX2_findFault 106 = .ok (.ifCond .ne 7, 3) := by decide +kernel
theorem dX2_findFault_109 : decode cX2_findFault 109 = .ok (.iload_n 2, 1) := by decide +kernel
theorem dX2_findFault_110 : decode cX2_findFault 110 = .ok (.ifCond .le 10, 3) := by decide +kernel
theorem dX2_findFault_113 : decode cX2_findFault 113 = .ok (.aload_n 0, 1) := by decide +kernel
theorem dX2_findFault_114 : decode cX2_findFault 114 = .ok (.getfield 30, 3) := by decide +kernel
theorem dX2_findFault_117 : decode cX2_findFault 117 = .ok (.goto 4, 3) := by decide +kernel
theorem dX2_findFault_120 : decode cX2_findFault 120 = .ok (.iconst (-1), 1) := by decide +kernel
theorem dX2_findFault_121 : decode cX2_findFault 121 = .ok (.ireturn, 1) := by decide +kernel
theorem dX2_read_0 : decode cX2_read 0 = .ok (.aload_n 0, 1) := by decide +kernel
theorem dX2_read_1 : decode cX2_read 1 = .ok (.iconst 0, 1) := by decide +kernel
theorem dX2_read_2 : decode cX2_read 2 = .ok (.putfield 44, 3) := by decide +kernel
theorem dX2_read_5 : decode cX2_read 5 = .ok (.aload_n 0, 1) := by decide +kernel
theorem dX2_read_6 : decode cX2_read 6 = .ok (.iconst 0, 1) := by decide +kernel
theorem dX2_read_7 : decode cX2_read 7 = .ok (.putfield 47, 3) := by decide +kernel
theorem dX2_read_10 : decode cX2_read 10 = .ok (.iconst 0, 1) := by decide +kernel
theorem dX2_read_11 : decode cX2_read 11 = .ok (.istore_n 1, 1) := by decide +kernel
theorem dX2_read_12 : decode cX2_read 12 = .ok (.iload_n 1, 1) := by decide +kernel
theorem dX2_read_13 : decode cX2_read 13 = .ok (.aload_n 0, 1) := by decide +kernel
theorem dX2_read_14 : decode cX2_read 14 = .ok (.getfield 30, 3) := by decide +kernel
theorem dX2_read_17 : decode cX2_read 17 = .ok (.if_icmp .ge 97, 3) := by decide +kernel
theorem dX2_read_20 : decode cX2_read 20 = .ok (.aload_n 0, 1) := by decide +kernel
theorem dX2_read_21 : decode cX2_read 21 = .ok (.getfield 9, 3) := by decide +kernel
theorem dX2_read_24 : decode cX2_read 24 = .ok (.iload_n 1, 1) := by decide +kernel
theorem dX2_read_25 : decode cX2_read 25 = .ok (.caload, 1) := by decide +kernel
theorem dX2_read_26 : decode cX2_read 26 = .ok (.istore_n 2, 1) := by decide +kernel
theorem dX2_read_27 : decode cX2_read 27 = .ok (.iload_n 2, 1) := by decide +kernel
theorem dX2_read_28 : decode cX2_read 28 = .ok (.invokestatic 34, 3) := by decide +kernel
theorem dX2_read_31 : decode cX2_read 31 = .ok (.ifCond .eq 18, 3) := by decide +kernel
theorem dX2_read_34 : decode cX2_read 34 = .ok (.aload_n 0, 1) := by decide +kernel
theorem dX2_read_35 : decode cX2_read 35 = .ok (.iload_n 2, 1) := by decide +kernel
theorem dX2_read_36 : decode cX2_read 36 = .ok (.invokestatic 50, 3) := by decide +kernel
theorem dX2_read_39 : decode cX2_read 39 = .ok (.invokevirtual 54, 3) := by decide +kernel
theorem dX2_read_42 : decode cX2_read 42 = .ok (.aload_n 0, 1) := by decide +kernel
theorem dX2_read_43 : decode cX2_read 43 = .ok (.invokevirtual 58, 3) := by decide +kernel
theorem dX2_read_46 : decode cX2_read 46 = .ok (.goto 62, 3) := by decide +kernel
theorem dX2_read_49 : decode cX2_read 49 = .ok (.iload_n 2, 1) := by decide +kernel
theorem dX2_read_50 : decode cX2_read 50 = .ok (.bipush 41, 2) := by decide +kernel
theorem dX2_read_52 : decode cX2_read 52 = .ok (.if_icmp .ne 36, 3) := by decide +kernel
theorem dX2_read_55 : decode cX2_read 55 = .ok (.aload_n 0, 1) := by decide +kernel
theorem dX2_read_56 : decode cX2_read 56 = .ok (.iconst 1, 1) := by decide +kernel
theorem dX2_read_57 : decode cX2_read 57 = .ok (.invokevirtual 61, 3) := by decide +kernel
theorem dX2_read_60 : decode cX2_read 60 = .ok (.aload_n 0, 1) := by decide +kernel
theorem dX2_read_61 : decode cX2_read 61 = .ok (.aload_n 0, 1) := by decide +kernel
theorem dX2_read_62 : decode cX2_read 62 = .ok (.getfield 47, 3) := by decide +kernel
theorem dX2_read_65 : decode cX2_read 65 = .ok (.ifCond .le 12, 3) := by decide +kernel
theorem dX2_read_68 : decode cX2_read 68 = .ok (.aload_n 0, 1) := by decide +kernel
theorem dX2_read_69 : decode cX2_read 69 = .ok (.getfield 47, 3) := by decide +kernel
theorem dX2_read_72 : decode cX2_read 72 = .ok (.iconst 1, 1) := by decide +kernel
theorem dX2_read_73 : decode cX2_read 73 = .ok (.isub, 1) := by decide +kernel
theorem dX2_read_74 : decode cX2_read 74 = .ok (.goto 4, 3) := by decide +kernel
theorem dX2_read_77 : decode cX2_read 77 = .ok (.iconst 0, 1) := by decide +kernel
theorem dX2_read_78 : decode cX2_read 78 = .ok (.putfield 47, 3) := by decide +kernel
theorem dX2_read_81 : decode cX2_read 81 = .ok (.aload_n 0, 1) := by decide +kernel
theorem dX2_read_82 : decode cX2_read 82 = .ok (.invokevirtual 58, 3) := by decide +kernel
theorem dX2_read_85 : decode cX2_read 85 = .ok (.goto 23, 3) := by decide +kernel
theorem dX2_read_88 : decode cX2_read 88 = .ok (.iload_n 2, 1) := by decide +kernel
theorem dX2_read_89 : decode cX2_read 89 = .ok (.invokestatic 41, 3) := by decide +kernel
theorem dX2_read_92 : decode cX2_read 92 = .ok (.ifCond .eq 11, 3) := by decide +kernel
theorem dX2_read_95 : decode cX2_read 95 = .ok (.aload_n 0, 1) := by decide +kernel
theorem dX2_read_96 : decode cX2_read 96 = .ok (.iload_n 2, 1) := by decide +kernel
theorem dX2_read_97 : decode cX2_read 97 = .ok (.invokestatic 64, 3) := by decide +kernel
theorem dX2_read_100 : decode cX2_read 100 = .ok (.invokevirtual 61, 3) := by decide +kernel
theorem dX2_read_103 : decode cX2_read 103 = .ok (.aload_n 0, 1) := by decide +kernel
theorem dX2_read_104 : decode cX2_read 104 = .ok (.iload_n 2, 1) := by decide +kernel
theorem dX2_read_105 : decode cX2_read 105 = .ok (.invokevirtual 67, 3) := by decide +kernel
theorem dX2_read_108 : decode cX2_read 108 = .ok (.iinc 1 1, 3) := by decide +kernel
theorem dX2_read_111 : decode cX2_read 111 = .ok (.goto (-99), 3) := by decide +kernel
theorem dX2_read_114 : decode cX2_read 114 = .ok (.aload_n 0, 1) := by decide +kernel
theorem dX2_read_115 : decode cX2_read 115 = .ok (.iconst 1, 1) := by decide +kernel
theorem dX2_read_116 : decode cX2_read 116 = .ok (.invokevirtual 61, 3) := by decide +kernel
theorem dX2_read_119 : decode cX2_read 119 = .ok (.aload_n 0, 1) := by decide +kernel
theorem dX2_read_120 : decode cX2_read 120 = .ok (.getfield 44, 3) := by decide +kernel
theorem dX2_read_123 : decode cX2_read 123 = .ok (.ifCond .le 12, 3) := by decide +kernel
theorem dX2_read_126 : decode cX2_read 126 = .ok (.aload_n 0, 1) := by decide +kernel
theorem dX2_read_127 : decode cX2_read 127 = .ok (.getfield 15, 3) := by decide +kernel
theorem dX2_read_130 : decode cX2_read 130 = .ok (.iconst 0, 1) := by decide +kernel
theorem dX2_read_131 : decode cX2_read 131 = .ok (.iaload, 1) := by decide +kernel
theorem dX2_read_132 : decode cX2_read 132 = .ok (.goto 4, 3) := by decide +kernel
theorem dX2_read_135 : decode cX2_read 135 = .ok (.iconst 0, 1) := by decide +kernel
theorem dX2_read_136 : decode cX2_read 136 = .ok (.ireturn, 1) := by decide +kernel
theorem dX2_hold_0 : decode cX2_hold 0 = .ok (.aload_n 0, 1) := by decide +kernel
theorem dX2_hold_1 : decode cX2_hold 1 = .ok (.getfield 44, 3) := by decide +kernel
theorem dX2_hold_4 : decode cX2_hold 4 = .ok (.bipush 60, 2) := by decide +kernel
theorem dX2_hold_6 : decode cX2_hold 6 = .ok (.if_icmp .ge 23, 3) := by decide +kernel
theorem dX2_hold_9 : decode cX2_hold 9 = .ok (.aload_n 0, 1) := by decide +kernel
theorem dX2_hold_10 : decode cX2_hold 10 = .ok (.getfield 15, 3) := by decide +kernel
theorem dX2_hold_13 : decode cX2_hold 13 = .ok (.aload_n 0, 1) := by decide +kernel
theorem dX2_hold_14 : decode cX2_hold 14 = .ok (.getfield 44, 3) := by decide +kernel
theorem dX2_hold_17 : decode cX2_hold 17 = .ok (.iload_n 1, 1) := by decide +kernel
theorem dX2_hold_18 : decode cX2_hold 18 = .ok (.iastore, 1) := by decide +kernel
theorem dX2_hold_19 : decode cX2_hold 19 = .ok (.aload_n 0, 1) := by decide +kernel
theorem dX2_hold_20 : decode cX2_hold 20 = .ok (.dup, 1) := by decide +kernel
theorem dX2_hold_21 : decode cX2_hold 21 = .ok (.getfield 44, 3) := by decide +kernel
theorem dX2_hold_24 : decode cX2_hold 24 = .ok (.iconst 1, 1) := by decide +kernel
theorem dX2_hold_25 : decode cX2_hold 25 = .ok (.iadd, 1) := by decide +kernel
theorem dX2_hold_26 : decode cX2_hold 26 = .ok (.putfield 44, 3) := by decide +kernel
theorem dX2_hold_29 : decode cX2_hold 29 = .ok (.return_, 1) := by decide +kernel
theorem dX2_await_0 : decode cX2_await 0 = .ok (.aload_n 0, 1) := by decide +kernel
theorem dX2_await_1 : decode cX2_await 1 = .ok (.getfield 47, 3) := by decide +kernel
theorem dX2_await_4 : decode cX2_await 4 = .ok (.bipush 60, 2) := by decide +kernel
theorem dX2_await_6 : decode cX2_await 6 = .ok (.if_icmp .ge 23, 3) := by decide +kernel
theorem dX2_await_9 : decode cX2_await 9 = .ok (.aload_n 0, 1) := by decide +kernel
theorem dX2_await_10 : decode cX2_await 10 = .ok (.getfield 19, 3) := by decide +kernel
theorem dX2_await_13 : decode cX2_await 13 = .ok (.aload_n 0, 1) := by decide +kernel
theorem dX2_await_14 : decode cX2_await 14 = .ok (.getfield 47, 3) := by decide +kernel
theorem dX2_await_17 : decode cX2_await 17 = .ok (.iload_n 1, 1) := by decide +kernel
theorem dX2_await_18 : decode cX2_await 18 = .ok (.castore, 1) := by decide +kernel
theorem dX2_await_19 : decode cX2_await 19 = .ok (.aload_n 0, 1) := by decide +kernel
theorem dX2_await_20 : decode cX2_await 20 = .ok (.dup, 1) := by decide +kernel
theorem dX2_await_21 : decode cX2_await 21 = .ok (.getfield 47, 3) := by decide +kernel
theorem dX2_await_24 : decode cX2_await 24 = .ok (.iconst 1, 1) := by decide +kernel
theorem dX2_await_25 : decode cX2_await 25 = .ok (.iadd, 1) := by decide +kernel
theorem dX2_await_26 : decode cX2_await 26 = .ok (.putfield 47, 3) := by decide +kernel
theorem dX2_await_29 : decode cX2_await 29 = .ok (.return_, 1) := by decide +kernel
theorem dX2_applyInFront_0 : decode cX2_applyInFront 0 = .ok (.aload_n 0, 1) := by decide +kernel
theorem dX2_applyInFront_1 : decode cX2_applyInFront 1 = .ok (.getfield 47, 3) := by decide +kernel
theorem dX2_applyInFront_4 : decode cX2_applyInFront 4 = .ok (.ifCond .le 184, 3) := by decide +kernel
theorem dX2_applyInFront_7 : decode cX2_applyInFront 7 = .ok (.aload_n 0, 1) := by decide +kernel
theorem dX2_applyInFront_8 : decode cX2_applyInFront 8 = .ok (.getfield 44, 3) := by decide +kernel
theorem dX2_applyInFront_11 : decode cX2_applyInFront 11 = .ok (.ifCond .le 177, 3) := by decide +kernel
theorem dX2_applyInFront_14 : decode cX2_applyInFront 14 = .ok (.aload_n 0, 1) := by decide +kernel
theorem dX2_applyInFront_15 : decode cX2_applyInFront 15 = .ok (.getfield 19, 3) := by decide +kernel
theorem dX2_applyInFront_18 : decode cX2_applyInFront 18 = .ok (.aload_n 0, 1) := by decide +kernel
theorem dX2_applyInFront_19 : decode cX2_applyInFront 19 = .ok (.getfield 47, 3) := by decide +kernel
theorem dX2_applyInFront_22 : decode cX2_applyInFront 22 = .ok (.iconst 1, 1) := by decide +kernel
theorem dX2_applyInFront_23 : decode cX2_applyInFront 23 = .ok (.isub, 1) := by decide +kernel
theorem dX2_applyInFront_24 : decode cX2_applyInFront 24 = .ok (.caload, 1) := by decide +kernel
theorem dX2_applyInFront_25 : decode cX2_applyInFront 25 = .ok (.invokestatic 38, 3) := by decide +kernel
theorem dX2_applyInFront_28 : decode cX2_applyInFront 28 = .ok (.ifCond .eq 160, 3) := by decide +kernel
theorem dX2_applyInFront_31 : decode cX2_applyInFront 31 = .ok (.aload_n 0, 1) := by decide +kernel
theorem dX2_applyInFront_32 : decode cX2_applyInFront 32 = .ok (.dup, 1) := by decide +kernel
theorem dX2_applyInFront_33 : decode cX2_applyInFront 33 = .ok (.getfield 47, 3) := by decide +kernel
theorem dX2_applyInFront_36 : decode cX2_applyInFront 36 = .ok (.iconst 1, 1) := by decide +kernel
theorem dX2_applyInFront_37 : decode cX2_applyInFront 37 = .ok (.isub, 1) := by decide +kernel
theorem dX2_applyInFront_38 : decode cX2_applyInFront 38 = .ok (.putfield 47, 3) := by decide +kernel
theorem dX2_applyInFront_41 : decode cX2_applyInFront 41 = .ok (.aload_n 0, 1) := by decide +kernel
theorem dX2_applyInFront_42 : decode cX2_applyInFront 42 = .ok (.getfield 15, 3) := by decide +kernel
theorem dX2_applyInFront_45 : decode cX2_applyInFront 45 = .ok (.aload_n 0, 1) := by decide +kernel
theorem dX2_applyInFront_46 : decode cX2_applyInFront 46 = .ok (.getfield 44, 3) := by decide +kernel
theorem dX2_applyInFront_49 : decode cX2_applyInFront 49 = .ok (.iconst 1, 1) := by decide +kernel
theorem dX2_applyInFront_50 : decode cX2_applyInFront 50 = .ok (.isub, 1) := by decide +kernel
theorem dX2_applyInFront_51 : decode cX2_applyInFront 51 = .ok (.iaload, 1) := by decide +kernel
theorem dX2_applyInFront_52 : decode cX2_applyInFront 52 = .ok (.istore_n 1, 1) := by decide +kernel
theorem dX2_applyInFront_53 : decode cX2_applyInFront 53 = .ok (.aload_n 0, 1) := by decide +kernel
theorem dX2_applyInFront_54 : decode cX2_applyInFront 54 = .ok (.getfield 19, 3) := by decide +kernel
theorem dX2_applyInFront_57 : decode cX2_applyInFront 57 = .ok (.aload_n 0, 1) := by decide +kernel
theorem dX2_applyInFront_58 : decode cX2_applyInFront 58 = .ok (.getfield 47, 3) := by decide +kernel
theorem dX2_applyInFront_61 : decode cX2_applyInFront 61 = .ok (.caload, 1) := by decide +kernel
theorem dX2_applyInFront_62 : decode cX2_applyInFront 62 = .ok (.lookupswitch 99 #[(33, 42), (71, 84), (78, 69), (88, 54)], 42) := by decide +kernel
theorem dX2_applyInFront_104 : decode cX2_applyInFront 104 = .ok (.aload_n 0, 1) := by decide +kernel
theorem dX2_applyInFront_105 : decode cX2_applyInFront 105 = .ok (.getfield 26, 3) := by decide +kernel
theorem dX2_applyInFront_108 : decode cX2_applyInFront 108 = .ok (.iload_n 1, 1) := by decide +kernel
theorem dX2_applyInFront_109 : decode cX2_applyInFront 109 = .ok (.invokevirtual 71, 3) := by decide +kernel
theorem dX2_applyInFront_112 : decode cX2_applyInFront 112 = .ok (.istore_n 2, 1) := by decide +kernel
theorem dX2_applyInFront_113 : decode cX2_applyInFront 113 = .ok (.goto 60, 3) := by decide +kernel
theorem dX2_applyInFront_116 : decode cX2_applyInFront 116 = .ok (.aload_n 0, 1) := by decide +kernel
theorem dX2_applyInFront_117 : decode cX2_applyInFront 117 = .ok (.getfield 26, 3) := by decide +kernel
theorem dX2_applyInFront_120 : decode cX2_applyInFront 120 = .ok (.bipush 16, 2) := by decide +kernel
theorem dX2_applyInFront_122 : decode cX2_applyInFront 122 = .ok (.iload_n 1, 1) := by decide +kernel
theorem dX2_applyInFront_123 : decode cX2_applyInFront 123 = .ok (.iload_n 1, 1) := by decide +kernel
theorem dX2_applyInFront_124 : decode cX2_applyInFront 124 = .ok (.invokevirtual 77, 3) := by decide +kernel
theorem dX2_applyInFront_127 : decode cX2_applyInFront 127 = .ok (.istore_n 2, 1) := by decide +kernel
theorem dX2_applyInFront_128 : decode cX2_applyInFront 128 = .ok (.goto 45, 3) := by decide +kernel
theorem dX2_applyInFront_131 : decode cX2_applyInFront 131 = .ok (.aload_n 0, 1) := by decide +kernel
theorem dX2_applyInFront_132 : decode cX2_applyInFront 132 = .ok (.getfield 26, 3) := by decide +kernel
theorem dX2_applyInFront_135 : decode cX2_applyInFront 135 = .ok (.bipush 17, 2) := by decide +kernel
theorem dX2_applyInFront_137 : decode cX2_applyInFront 137 = .ok (.iload_n 1, 1) := by decide +kernel
theorem dX2_applyInFront_138 : decode cX2_applyInFront 138 = .ok (.iload_n 1, 1) := by decide +kernel
theorem dX2_applyInFront_139 : decode cX2_applyInFront 139 = .ok (.invokevirtual 77, 3) := by decide +kernel
theorem dX2_applyInFront_142 : decode cX2_applyInFront 142 = .ok (.istore_n 2, 1) := by decide +kernel
theorem dX2_applyInFront_143 : decode cX2_applyInFront 143 = .ok (.goto 30, 3) := by decide +kernel
theorem dX2_applyInFront_146 : decode cX2_applyInFront 146 = .ok (.aload_n 0, 1) := by decide +kernel
theorem dX2_applyInFront_147 : decode cX2_applyInFront 147 = .ok (.getfield 26, 3) := by decide +kernel
theorem dX2_applyInFront_150 : decode cX2_applyInFront 150 = .ok (.bipush 19, 2) := by decide +kernel
theorem dX2_applyInFront_152 : decode cX2_applyInFront 152 = .ok (.iconst 0, 1) := by decide +kernel
theorem dX2_applyInFront_153 : decode cX2_applyInFront 153 = .ok (.iload_n 1, 1) := by decide +kernel
theorem dX2_applyInFront_154 : decode cX2_applyInFront 154 = .ok (.invokevirtual 77, 3) := by decide +kernel
theorem dX2_applyInFront_157 : decode cX2_applyInFront 157 = .ok (.istore_n 2, 1) := by decide +kernel
theorem dX2_applyInFront_158 : decode cX2_applyInFront 158 = .ok (.goto 15, 3) := by decide +kernel
theorem dX2_applyInFront_161 : decode cX2_applyInFront 161 = .ok (.aload_n 0, 1) := by decide +kernel
theorem dX2_applyInFront_162 : decode cX2_applyInFront 162 = .ok (.getfield 26, 3) := by decide +kernel
theorem dX2_applyInFront_165 : decode cX2_applyInFront 165 = .ok (.bipush 18, 2) := by decide +kernel
theorem dX2_applyInFront_167 : decode cX2_applyInFront 167 = .ok (.iconst 1, 1) := by decide +kernel
theorem dX2_applyInFront_168 : decode cX2_applyInFront 168 = .ok (.iload_n 1, 1) := by decide +kernel
theorem dX2_applyInFront_169 : decode cX2_applyInFront 169 = .ok (.invokevirtual 77, 3) := by decide +kernel
theorem dX2_applyInFront_172 : decode cX2_applyInFront 172 = .ok (.istore_n 2, 1) := by decide +kernel
theorem dX2_applyInFront_173 : decode cX2_applyInFront 173 = .ok (.aload_n 0, 1) := by decide +kernel
theorem dX2_applyInFront_174 : decode cX2_applyInFront 174 = .ok (.getfield 15, 3) := by decide +kernel
theorem dX2_applyInFront_177 : decode cX2_applyInFront 177 = .ok (.aload_n 0, 1) := by decide +kernel
theorem dX2_applyInFront_178 : decode cX2_applyInFront 178 = .ok (.getfield 44, 3) := by decide +kernel
theorem dX2_applyInFront_181 : decode cX2_applyInFront 181 = .ok (.iconst 1, 1) := by decide +kernel
theorem dX2_applyInFront_182 : decode cX2_applyInFront 182 = .ok (.isub, 1) := by decide +kernel
theorem dX2_applyInFront_183 : decode cX2_applyInFront 183 = .ok (.iload_n 2, 1) := by decide +kernel
theorem dX2_applyInFront_184 : decode cX2_applyInFront 184 = .ok (.iastore, 1) := by decide +kernel
theorem dX2_applyInFront_185 : decode cX2_applyInFront 185 = .ok (.goto (-185), 3) := by decide +kernel
theorem dX2_applyInFront_188 : decode cX2_applyInFront 188 = .ok (.return_, 1) := by decide +kernel
theorem dX2_combineDownTo_0 : decode cX2_combineDownTo 0 = .ok (.aload_n 0, 1) := by decide +kernel
theorem dX2_combineDownTo_1 : decode cX2_combineDownTo 1 = .ok (.getfield 47, 3) := by decide +kernel
theorem dX2_combineDownTo_4 : decode cX2_combineDownTo 4 = .ok (.ifCond .le 193, 3) := by decide +kernel
theorem dX2_combineDownTo_7 : decode cX2_combineDownTo 7 = .ok (.aload_n 0, 1) := by decide +kernel
theorem dX2_combineDownTo_8 : decode cX2_combineDownTo 8 = .ok (.getfield 44, 3) := by decide +kernel
theorem dX2_combineDownTo_11 : decode cX2_combineDownTo 11 = .ok (.iconst 1, 1) := by decide +kernel
theorem dX2_combineDownTo_12 : decode cX2_combineDownTo 12 = .ok (.if_icmp .le 185, 3) := by decide +kernel
theorem dX2_combineDownTo_15 : decode cX2_combineDownTo 15 = .ok (.aload_n 0, 1) := by decide +kernel
theorem dX2_combineDownTo_16 : decode cX2_combineDownTo 16 = .ok (.getfield 19, 3) := by decide +kernel
theorem dX2_combineDownTo_19 : decode cX2_combineDownTo 19 = .ok (.aload_n 0, 1) := by decide +kernel
theorem dX2_combineDownTo_20 : decode cX2_combineDownTo 20 = .ok (.getfield 47, 3) := by decide +kernel
theorem dX2_combineDownTo_23 : decode cX2_combineDownTo 23 = .ok (.iconst 1, 1) := by decide +kernel
theorem dX2_combineDownTo_24 : decode cX2_combineDownTo 24 = .ok (.isub, 1) := by decide +kernel
theorem dX2_combineDownTo_25 : decode cX2_combineDownTo 25 = .ok (.caload, 1) := by decide +kernel
theorem dX2_combineDownTo_26 : decode cX2_combineDownTo 26 = .ok (.invokestatic 81, 3) := by decide +kernel
theorem dX2_combineDownTo_29 : decode cX2_combineDownTo 29 = .ok (.iload_n 1, 1) := by decide +kernel
theorem dX2_combineDownTo_30 : decode cX2_combineDownTo 30 = .ok (.if_icmp .lt 167, 3) := by decide +kernel
theorem dX2_combineDownTo_33 : decode cX2_combineDownTo 33 = .ok (.aload_n 0, 1) := by decide +kernel
theorem dX2_combineDownTo_34 : decode cX2_combineDownTo 34 = .ok (.dup, 1) := by decide +kernel
theorem dX2_combineDownTo_35 : decode cX2_combineDownTo 35 = .ok (.getfield 47, 3) := by decide +kernel
theorem dX2_combineDownTo_38 : decode cX2_combineDownTo 38 = .ok (.iconst 1, 1) := by decide +kernel
theorem dX2_combineDownTo_39 : decode cX2_combineDownTo 39 = .ok (.isub, 1) := by decide +kernel
theorem dX2_combineDownTo_40 : decode cX2_combineDownTo 40 = .ok (.putfield 47, 3) := by decide +kernel
theorem dX2_combineDownTo_43 : decode cX2_combineDownTo 43 = .ok (.aload_n 0, 1) := by decide +kernel
theorem dX2_combineDownTo_44 : decode cX2_combineDownTo 44 = .ok (.dup, 1) := by decide +kernel
theorem dX2_combineDownTo_45 : decode cX2_combineDownTo 45 = .ok (.getfield 44, 3) := by decide +kernel
theorem dX2_combineDownTo_48 : decode cX2_combineDownTo 48 = .ok (.iconst 1, 1) := by decide +kernel
theorem dX2_combineDownTo_49 : decode cX2_combineDownTo 49 = .ok (.isub, 1) := by decide +kernel
theorem dX2_combineDownTo_50 : decode cX2_combineDownTo 50 = .ok (.putfield 44, 3) := by decide +kernel
theorem dX2_combineDownTo_53 : decode cX2_combineDownTo 53 = .ok (.aload_n 0, 1) := by decide +kernel
theorem dX2_combineDownTo_54 : decode cX2_combineDownTo 54 = .ok (.getfield 15, 3) := by decide +kernel
theorem dX2_combineDownTo_57 : decode cX2_combineDownTo 57 = .ok (.aload_n 0, 1) := by decide +kernel
theorem dX2_combineDownTo_58 : decode cX2_combineDownTo 58 = .ok (.getfield 44, 3) := by decide +kernel
theorem dX2_combineDownTo_61 : decode cX2_combineDownTo 61 = .ok (.iconst 1, 1) := by decide +kernel
theorem dX2_combineDownTo_62 : decode cX2_combineDownTo 62 = .ok (.isub, 1) := by decide +kernel
theorem dX2_combineDownTo_63 : decode cX2_combineDownTo 63 = .ok (.iaload, 1) := by decide +kernel
theorem dX2_combineDownTo_64 : decode cX2_combineDownTo 64 = .ok (.istore_n 2, 1) := by decide +kernel
theorem dX2_combineDownTo_65 : decode cX2_combineDownTo 65 = .ok (.aload_n 0, 1) := by decide +kernel
theorem dX2_combineDownTo_66 : decode cX2_combineDownTo 66 = .ok (.getfield 15, 3) := by decide +kernel
theorem dX2_combineDownTo_69 : decode cX2_combineDownTo 69 = .ok (.aload_n 0, 1) := by decide +kernel
theorem dX2_combineDownTo_70 : decode cX2_combineDownTo 70 = .ok (.getfield 44, 3) := by decide +kernel
theorem dX2_combineDownTo_73 : decode cX2_combineDownTo 73 = .ok (.iaload, 1) := by decide +kernel
theorem dX2_combineDownTo_74 : decode cX2_combineDownTo 74 = .ok (.istore_n 3, 1) := by decide +kernel
theorem dX2_combineDownTo_75 : decode cX2_combineDownTo 75 = .ok (.aload_n 0, 1) := by decide +kernel
theorem dX2_combineDownTo_76 : decode cX2_combineDownTo 76 = .ok (.getfield 19, 3) := by decide +kernel
theorem dX2_combineDownTo_79 : decode cX2_combineDownTo 79 = .ok (.aload_n 0, 1) := by decide +kernel
theorem dX2_combineDownTo_80 : decode cX2_combineDownTo 80 = .ok (.getfield 47, 3) := by decide +kernel
theorem dX2_combineDownTo_83 : decode cX2_combineDownTo 83 = .ok (.caload, 1) := by decide +kernel
theorem dX2_combineDownTo_84 : decode cX2_combineDownTo 84 = .ok (.lookupswitch 84 #[(38, 68), (82, 52), (85, 36)], 36) := by decide +kernel
theorem dX2_combineDownTo_120 : decode cX2_combineDownTo 120 = .ok (.aload_n 0, 1) := by decide +kernel
theorem dX2_combineDownTo_121 : decode cX2_combineDownTo 121 = .ok (.getfield 26, 3) := by decide +kernel
theorem dX2_combineDownTo_124 : decode cX2_combineDownTo 124 = .ok (.bipush 18, 2) := by decide +kernel
theorem dX2_combineDownTo_126 : decode cX2_combineDownTo 126 = .ok (.iload_n 2, 1) := by decide +kernel
theorem dX2_combineDownTo_127 : decode cX2_combineDownTo 127 = .ok (.iload_n 3, 1) := by decide +kernel
theorem dX2_combineDownTo_128 : decode cX2_combineDownTo 128 = .ok (.invokevirtual 77, 3) := by decide +kernel
theorem dX2_combineDownTo_131 : decode cX2_combineDownTo 131 = .ok (.istore 4, 2) := by decide +kernel
theorem dX2_combineDownTo_133 : decode cX2_combineDownTo 133 = .ok (.goto 48, 3) := by decide +kernel
theorem dX2_combineDownTo_136 : decode cX2_combineDownTo 136 = .ok (.aload_n 0, 1) := by decide +kernel
theorem dX2_combineDownTo_137 : decode cX2_combineDownTo 137 = .ok (.getfield 26, 3) := by decide +kernel
theorem dX2_combineDownTo_140 : decode cX2_combineDownTo 140 = .ok (.bipush 19, 2) := by decide +kernel
theorem dX2_combineDownTo_142 : decode cX2_combineDownTo 142 = .ok (.iload_n 2, 1) := by decide +kernel
theorem dX2_combineDownTo_143 : decode cX2_combineDownTo 143 = .ok (.iload_n 3, 1) := by decide +kernel
theorem dX2_combineDownTo_144 : decode cX2_combineDownTo 144 = .ok (.invokevirtual 77, 3) := by decide +kernel
theorem dX2_combineDownTo_147 : decode cX2_combineDownTo 147 = .ok (.istore 4, 2) := by decide +kernel
theorem dX2_combineDownTo_149 : decode cX2_combineDownTo 149 = .ok (.goto 32, 3) := by decide +kernel
theorem dX2_combineDownTo_152 : decode cX2_combineDownTo 152 = .ok (.aload_n 0, 1) := by decide +kernel
theorem dX2_combineDownTo_153 : decode cX2_combineDownTo 153 = .ok (.getfield 26, 3) := by decide +kernel
theorem dX2_combineDownTo_156 : decode cX2_combineDownTo 156 = .ok (.bipush 20, 2) := by decide +kernel
theorem dX2_combineDownTo_158 : decode cX2_combineDownTo 158 = .ok (.iload_n 2, 1) := by decide +kernel
theorem dX2_combineDownTo_159 : decode cX2_combineDownTo 159 = .ok (.iload_n 3, 1) := by decide +kernel
theorem dX2_combineDownTo_160 : decode cX2_combineDownTo 160 = .ok (.invokevirtual 84, 3) := by decide +kernel
theorem dX2_combineDownTo_163 : decode cX2_combineDownTo 163 = .ok (.istore 4, 2) := by decide +kernel
theorem dX2_combineDownTo_165 : decode cX2_combineDownTo 165 = .ok (.goto 16, 3) := by decide +kernel
theorem dX2_combineDownTo_168 : decode cX2_combineDownTo 168 = .ok (.aload_n 0, 1) := by decide +kernel
theorem dX2_combineDownTo_169 : decode cX2_combineDownTo 169 = .ok (.getfield 26, 3) := by decide +kernel
theorem dX2_combineDownTo_172 : decode cX2_combineDownTo 172 = .ok (.bipush 21, 2) := by decide +kernel
theorem dX2_combineDownTo_174 : decode cX2_combineDownTo 174 = .ok (.iload_n 2, 1) := by decide +kernel
theorem dX2_combineDownTo_175 : decode cX2_combineDownTo 175 = .ok (.iload_n 3, 1) := by decide +kernel
theorem dX2_combineDownTo_176 : decode cX2_combineDownTo 176 = .ok (.invokevirtual 84, 3) := by decide +kernel
theorem dX2_combineDownTo_179 : decode cX2_combineDownTo 179 = .ok (.istore 4, 2) := by decide +kernel
theorem dX2_combineDownTo_181 : decode cX2_combineDownTo 181 = .ok (.aload_n 0, 1) := by decide +kernel
theorem dX2_combineDownTo_182 : decode cX2_combineDownTo 182 = .ok (.getfield 15, 3) := by decide +kernel
theorem dX2_combineDownTo_185 : decode cX2_combineDownTo 185 = .ok (.aload_n 0, 1) := by decide +kernel
theorem dX2_combineDownTo_186 : decode cX2_combineDownTo 186 = .ok (.getfield 44, 3) := by decide +kernel
theorem dX2_combineDownTo_189 : decode cX2_combineDownTo 189 = .ok (.iconst 1, 1) := by decide +kernel
theorem dX2_combineDownTo_190 : decode cX2_combineDownTo 190 = .ok (.isub, 1) := by decide +kernel
theorem dX2_combineDownTo_191 : decode cX2_combineDownTo 191 = .ok (.iload 4, 2) := by decide +kernel
theorem dX2_combineDownTo_193 : decode cX2_combineDownTo 193 = .ok (.iastore, 1) := by decide +kernel
theorem dX2_combineDownTo_194 : decode cX2_combineDownTo 194 = .ok (.goto (-194), 3) := by decide +kernel
theorem dX2_combineDownTo_197 : decode cX2_combineDownTo 197 = .ok (.return_, 1) := by decide +kernel
theorem dX2_leastToCombine_0 : decode cX2_leastToCombine 0 = .ok (.iload_n 0, 1) := by decide +kernel
theorem dX2_leastToCombine_1 : decode cX2_leastToCombine 1 = .ok (.bipush 85, 2) := by decide +kernel
theorem dX2_leastToCombine_3 : decode cX2_leastToCombine 3 = .ok (.if_icmp .eq 9, 3) := by decide +kernel
theorem dX2_leastToCombine_6 : decode cX2_leastToCombine 6 = .ok (.iload_n 0, 1) := by decide +kernel
theorem dX2_leastToCombine_7 : decode cX2_leastToCombine 7 = .ok (.bipush 82, 2) := by decide +kernel
theorem dX2_leastToCombine_9 : decode cX2_leastToCombine 9 = .ok (.if_icmp .ne 12, 3) := by decide +kernel
theorem dX2_leastToCombine_12 : decode cX2_leastToCombine 12 = .ok (.iload_n 0, 1) := by decide +kernel
theorem dX2_leastToCombine_13 : decode cX2_leastToCombine 13 = .ok (.invokestatic 81, 3) := by decide +kernel
theorem dX2_leastToCombine_16 : decode cX2_leastToCombine 16 = .ok (.iconst 1, 1) := by decide +kernel
theorem dX2_leastToCombine_17 : decode cX2_leastToCombine 17 = .ok (.iadd, 1) := by decide +kernel
theorem dX2_leastToCombine_18 : decode cX2_leastToCombine 18 = .ok (.goto 7, 3) := by decide +kernel
theorem dX2_leastToCombine_21 : decode cX2_leastToCombine 21 = .ok (.iload_n 0, 1) := by decide +kernel
theorem dX2_leastToCombine_22 : decode cX2_leastToCombine 22 = .ok (.invokestatic 81, 3) := by decide +kernel
theorem dX2_leastToCombine_25 : decode cX2_leastToCombine 25 = .ok (.ireturn, 1) := by decide +kernel
theorem dX2_binding_0 : decode cX2_binding 0 = .ok (.iload_n 0, 1) := by decide +kernel
theorem dX2_binding_1 : decode cX2_binding 1 = .ok (.lookupswitch 51 #[(38, 45), (82, 49), (85, 47), (124, 43)], 43) := by decide +kernel
theorem dX2_binding_44 : decode cX2_binding 44 = .ok (.iconst 1, 1) := by decide +kernel
theorem dX2_binding_45 : decode cX2_binding 45 = .ok (.ireturn, 1) := by decide +kernel
theorem dX2_binding_46 : decode cX2_binding 46 = .ok (.iconst 2, 1) := by decide +kernel
theorem dX2_binding_47 : decode cX2_binding 47 = .ok (.ireturn, 1) := by decide +kernel
theorem dX2_binding_48 : decode cX2_binding 48 = .ok (.iconst 3, 1) := by decide +kernel
theorem dX2_binding_49 : decode cX2_binding 49 = .ok (.ireturn, 1) := by decide +kernel
theorem dX2_binding_50 : decode cX2_binding 50 = .ok (.iconst 3, 1) := by decide +kernel
theorem dX2_binding_51 : decode cX2_binding 51 = .ok (.ireturn, 1) := by decide +kernel
theorem dX2_binding_52 : decode cX2_binding 52 = .ok (.iconst 0, 1) := by decide +kernel
theorem dX2_binding_53 : decode cX2_binding 53 = .ok (.ireturn, 1) := by decide +kernel
theorem dX2_isBetween_0 : decode cX2_isBetween 0 = .ok (.iload_n 0, 1) := by decide +kernel
theorem dX2_isBetween_1 : decode cX2_isBetween 1 = .ok (.invokestatic 81, 3) := by decide +kernel
theorem dX2_isBetween_4 : decode cX2_isBetween 4 = .ok (.ifCond .le 7, 3) := by decide +kernel
theorem dX2_isBetween_7 : decode cX2_isBetween 7 = .ok (.iconst 1, 1) := by decide +kernel
theorem dX2_isBetween_8 : decode cX2_isBetween 8 = .ok (.goto 4, 3) := by decide +kernel
theorem dX2_isBetween_11 : decode cX2_isBetween 11 = .ok (.iconst 0, 1) := by decide +kernel
theorem dX2_isBetween_12 : decode cX2_isBetween 12 = .ok (.ireturn, 1) := by decide +kernel
theorem dX2_isInFront_0 : decode cX2_isInFront 0 = .ok (.iload_n 0, 1) := by decide +kernel
theorem dX2_isInFront_1 : decode cX2_isInFront 1 = .ok (.bipush 33, 2) := by decide +kernel
theorem dX2_isInFront_3 : decode cX2_isInFront 3 = .ok (.if_icmp .eq 27, 3) := by decide +kernel
theorem dX2_isInFront_6 : decode cX2_isInFront 6 = .ok (.iload_n 0, 1) := by decide +kernel
theorem dX2_isInFront_7 : decode cX2_isInFront 7 = .ok (.bipush 88, 2) := by decide +kernel
theorem dX2_isInFront_9 : decode cX2_isInFront 9 = .ok (.if_icmp .eq 21, 3) := by decide +kernel
theorem dX2_isInFront_12 : decode cX2_isInFront 12 = .ok (.iload_n 0, 1) := by decide +kernel
theorem dX2_isInFront_13 : decode cX2_isInFront 13 = .ok (.bipush 78, 2) := by decide +kernel
theorem dX2_isInFront_15 : decode cX2_isInFront 15 = .ok (.if_icmp .eq 15, 3) := by decide +kernel
theorem dX2_isInFront_18 : decode cX2_isInFront 18 = .ok (.iload_n 0, 1) := by decide +kernel
theorem dX2_isInFront_19 : decode cX2_isInFront 19 = .ok (.bipush 71, 2) := by decide +kernel
theorem dX2_isInFront_21 : decode cX2_isInFront 21 = .ok (.if_icmp .eq 9, 3) := by decide +kernel
theorem dX2_isInFront_24 : decode cX2_isInFront 24 = .ok (.iload_n 0, 1) := by decide +kernel
theorem dX2_isInFront_25 : decode cX2_isInFront 25 = .ok (.bipush 70, 2) := by decide +kernel
theorem dX2_isInFront_27 : decode cX2_isInFront 27 = .ok (.if_icmp .ne 7, 3) := by decide +kernel
theorem dX2_isInFront_30 : decode cX2_isInFront 30 = .ok (.iconst 1, 1) := by decide +kernel
theorem dX2_isInFront_31 : decode cX2_isInFront 31 = .ok (.goto 4, 3) := by decide +kernel
theorem dX2_isInFront_34 : decode cX2_isInFront 34 = .ok (.iconst 0, 1) := by decide +kernel
theorem dX2_isInFront_35 : decode cX2_isInFront 35 = .ok (.ireturn, 1) := by decide +kernel
theorem dX2_isValue_0 : decode cX2_isValue 0 = .ok (.iload_n 0, 1) := by decide +kernel
theorem dX2_isValue_1 : decode cX2_isValue 1 = .ok (.bipush 48, 2) := by decide +kernel
theorem dX2_isValue_3 : decode cX2_isValue 3 = .ok (.if_icmp .eq 21, 3) := by decide +kernel
theorem dX2_isValue_6 : decode cX2_isValue 6 = .ok (.iload_n 0, 1) := by decide +kernel
theorem dX2_isValue_7 : decode cX2_isValue 7 = .ok (.bipush 49, 2) := by decide +kernel
theorem dX2_isValue_9 : decode cX2_isValue 9 = .ok (.if_icmp .eq 15, 3) := by decide +kernel
theorem dX2_isValue_12 : decode cX2_isValue 12 = .ok (.iload_n 0, 1) := by decide +kernel
theorem dX2_isValue_13 : decode cX2_isValue 13 = .ok (.bipush 97, 2) := by decide +kernel
theorem dX2_isValue_15 : decode cX2_isValue 15 = .ok (.if_icmp .lt 13, 3) := by decide +kernel
theorem dX2_isValue_18 : decode cX2_isValue 18 = .ok (.iload_n 0, 1) := by decide +kernel
theorem dX2_isValue_19 : decode cX2_isValue 19 = .ok (.bipush 102, 2) := by decide +kernel
theorem dX2_isValue_21 : decode cX2_isValue 21 = .ok (.if_icmp .gt 7, 3) := by decide +kernel
theorem dX2_isValue_24 : decode cX2_isValue 24 = .ok (.iconst 1, 1) := by decide +kernel
theorem dX2_isValue_25 : decode cX2_isValue 25 = .ok (.goto 4, 3) := by decide +kernel
theorem dX2_isValue_28 : decode cX2_isValue 28 = .ok (.iconst 0, 1) := by decide +kernel
theorem dX2_isValue_29 : decode cX2_isValue 29 = .ok (.ireturn, 1) := by decide +kernel
theorem dX2_valueOf_0 : decode cX2_valueOf 0 = .ok (.iload_n 0, 1) := by decide +kernel
theorem dX2_valueOf_1 : decode cX2_valueOf 1 = .ok (.bipush 48, 2) := by decide +kernel
theorem dX2_valueOf_3 : decode cX2_valueOf 3 = .ok (.if_icmp .ne 7, 3) := by decide +kernel
theorem dX2_valueOf_6 : decode cX2_valueOf 6 = .ok (.iconst 0, 1) := by decide +kernel
theorem dX2_valueOf_7 : decode cX2_valueOf 7 = .ok (.goto 19, 3) := by decide +kernel
theorem dX2_valueOf_10 : decode cX2_valueOf 10 = .ok (.iload_n 0, 1) := by decide +kernel
theorem dX2_valueOf_11 : decode cX2_valueOf 11 = .ok (.bipush 49, 2) := by decide +kernel
theorem dX2_valueOf_13 : decode cX2_valueOf 13 = .ok (.if_icmp .ne 7, 3) := by decide +kernel
theorem dX2_valueOf_16 : decode cX2_valueOf 16 = .ok (.iconst 1, 1) := by decide +kernel
theorem dX2_valueOf_17 : decode cX2_valueOf 17 = .ok (.goto 9, 3) := by decide +kernel
theorem dX2_valueOf_20 : decode cX2_valueOf 20 = .ok (.iconst 4, 1) := by decide +kernel
theorem dX2_valueOf_21 : decode cX2_valueOf 21 = .ok (.iload_n 0, 1) := by decide +kernel
theorem dX2_valueOf_22 : decode cX2_valueOf 22 = .ok (.bipush 97, 2) := by decide +kernel
theorem dX2_valueOf_24 : decode cX2_valueOf 24 = .ok (.isub, 1) := by decide +kernel
theorem dX2_valueOf_25 : decode cX2_valueOf 25 = .ok (.iadd, 1) := by decide +kernel
theorem dX2_valueOf_26 : decode cX2_valueOf 26 = .ok (.ireturn, 1) := by decide +kernel
theorem dX3_init_0 : decode cX3_init 0 = .ok (.aload_n 0, 1) := by decide +kernel
theorem dX3_init_1 : decode cX3_init 1 = .ok (.invokespecial 3, 3) := by decide +kernel
theorem dX3_init_4 : decode cX3_init 4 = .ok (.aload_n 0, 1) := by decide +kernel
theorem dX3_init_5 : decode cX3_init 5 = .ok (.bipush 120, 2) := by decide +kernel
theorem dX3_init_7 : decode cX3_init 7 = .ok (.newarray .int, 2) := by decide +kernel
theorem dX3_init_9 : decode cX3_init 9 = .ok (.putfield 9, 3) := by decide +kernel
theorem dX3_init_12 : decode cX3_init 12 = .ok (.aload_n 0, 1) := by decide +kernel
theorem dX3_init_13 : decode cX3_init 13 = .ok (.sipush 360, 3) := by decide +kernel
theorem dX3_init_16 : decode cX3_init 16 = .ok (.newarray .char, 2) := by decide +kernel
theorem dX3_init_18 : decode cX3_init 18 = .ok (.putfield 15, 3) := by decide +kernel
theorem dX3_init_21 : decode cX3_init 21 = .ok (.aload_n 0, 1) := by decide +kernel
theorem dX3_init_22 : decode cX3_init 22 = .ok (.bipush 120, 2) := by decide +kernel
theorem dX3_init_24 : decode cX3_init 24 = .ok (.newarray .char, 2) := by decide +kernel
theorem dX3_init_26 : decode cX3_init 26 = .ok (.putfield 19, 3) := by decide +kernel
theorem dX3_init_29 : decode cX3_init 29 = .ok (.aload_n 0, 1) := by decide +kernel
theorem dX3_init_30 : decode cX3_init 30 = .ok (.bipush 120, 2) := by decide +kernel
theorem dX3_init_32 : decode cX3_init 32 = .ok (.newarray .int, 2) := by decide +kernel
theorem dX3_init_34 : decode cX3_init 34 = .ok (.putfield 22, 3) := by decide +kernel
theorem dX3_init_37 : decode cX3_init 37 = .ok (.aload_n 0, 1) := by decide +kernel
theorem dX3_init_38 : decode cX3_init 38 = .ok (.aload_n 1, 1) := by decide +kernel
theorem dX3_init_39 : decode cX3_init 39 = .ok (.putfield 25, 3) := by decide +kernel
theorem dX3_init_42 : decode cX3_init 42 = .ok (.return_, 1) := by decide +kernel
theorem dX3_load_0 : decode cX3_load 0 = .ok (.bipush 120, 2) := by decide +kernel
theorem dX3_load_2 : decode cX3_load 2 = .ok (.istore_n 3, 1) := by decide +kernel
theorem dX3_load_3 : decode cX3_load 3 = .ok (.aload_n 1, 1) := by decide +kernel
theorem dX3_load_4 : decode cX3_load 4 = .ok (.getfield 29, 3) := by decide +kernel
theorem dX3_load_7 : decode cX3_load 7 = .ok (.iload_n 2, 1) := by decide +kernel
theorem dX3_load_8 : decode cX3_load 8 = .ok (.iaload, 1) := by decide +kernel
theorem dX3_load_9 : decode cX3_load 9 = .ok (.iconst 1, 1) := by decide +kernel
theorem dX3_load_10 : decode cX3_load 10 = .ok (.isub, 1) := by decide +kernel
theorem dX3_load_11 : decode cX3_load 11 = .ok (.istore 4, 2) := by decide +kernel
theorem dX3_load_13 : decode cX3_load 13 = .ok (.iload 4, 2) := by decide +kernel
theorem dX3_load_15 : decode cX3_load 15 = .ok (.ifCond .lt 86, 3) := by decide +kernel
theorem dX3_load_18 : decode cX3_load 18 = .ok (.aload_n 1, 1) := by decide +kernel
theorem dX3_load_19 : decode cX3_load 19 = .ok (.getfield 34, 3) := by decide +kernel
theorem dX3_load_22 : decode cX3_load 22 = .ok (.iload_n 2, 1) := by decide +kernel
theorem dX3_load_23 : decode cX3_load 23 = .ok (.bipush 120, 2) := by decide +kernel
theorem dX3_load_25 : decode cX3_load 25 = .ok (.imul, 1) := by decide +kernel
theorem dX3_load_26 : decode cX3_load 26 = .ok (.iload 4, 2) := by decide +kernel
theorem dX3_load_28 : decode cX3_load 28 = .ok (.iadd, 1) := by decide +kernel
theorem dX3_load_29 : decode cX3_load 29 = .ok (.iaload, 1) := by decide +kernel
theorem dX3_load_30 : decode cX3_load 30 = .ok (.istore 5, 2) := by decide +kernel
theorem dX3_load_32 : decode cX3_load 32 = .ok (.iload 5, 2) := by decide +kernel
theorem dX3_load_34 : decode cX3_load 34 = .ok (.iconst 5, 1) := by decide +kernel
theorem dX3_load_35 : decode cX3_load 35 = .ok (.ishr, 1) := by decide +kernel
theorem dX3_load_36 : decode cX3_load 36 = .ok (.istore 6, 2) := by decide +kernel
theorem dX3_load_38 : decode cX3_load 38 = .ok (.iload 5, 2) := by decide +kernel
theorem dX3_load_40 : decode cX3_load 40 = .ok (.istore 7, 2) := by decide +kernel
theorem dX3_load_42 : decode cX3_load 42 = .ok (.iload 6, 2) := by decide +kernel
theorem dX3_load_44 : decode cX3_load 44 = .ok (.ifCond .le 24, 3) := by decide +kernel
theorem dX3_load_47 : decode cX3_load 47 = .ok (.aload_n 0, 1) := by decide +kernel
theorem dX3_load_48 : decode cX3_load 48 = .ok (.getfield 25, 3) := by decide +kernel
theorem dX3_load_51 : decode cX3_load 51 = .ok (.iload 5, 2) := by decide +kernel
theorem dX3_load_53 : decode cX3_load 53 = .ok (.bipush 31, 2) := by decide +kernel
theorem dX3_load_55 : decode cX3_load 55 = .ok (.iand, 1) := by decide +kernel
theorem dX3_load_56 : decode cX3_load 56 = .ok (.aload_n 0, 1) := by decide +kernel
theorem dX3_load_57 : decode cX3_load 57 = .ok (.getfield 9, 3) := by decide +kernel
theorem dX3_load_60 : decode cX3_load 60 = .ok (.iload_n 3, 1) := by decide +kernel
theorem dX3_load_61 : decode cX3_load 61 = .ok (.iload 6, 2) := by decide +kernel
theorem dX3_load_63 : decode cX3_load 63 = .ok (.invokevirtual 37, 3) := by decide +kernel
theorem dX3_load_66 : decode cX3_load 66 = .ok (.istore 7, 2) := by decide +kernel
theorem dX3_load_68 : decode cX3_load 68 = .ok (.iload_n 3, 1) := by decide +kernel
theorem dX3_load_69 : decode cX3_load 69 = .ok (.iload 6, 2) := by decide +kernel
theorem dX3_load_71 : decode cX3_load 71 = .ok (.iconst 1, 1) := by decide +kernel
theorem dX3_load_72 : decode cX3_load 72 = .ok (.isub, 1) := by decide +kernel
theorem dX3_load_73 : decode cX3_load 73 = .ok (.iadd, 1) := by decide +kernel
theorem dX3_load_74 : decode cX3_load 74 = .ok (.istore_n 3, 1) := by decide +kernel
theorem dX3_load_75 : decode cX3_load 75 = .ok (.iload_n 3, 1) := by decide +kernel
theorem dX3_load_76 : decode cX3_load 76 = .ok (.ifCond .lt 9, 3) := by decide +kernel
theorem dX3_load_79 : decode cX3_load 79 = .ok (.iload_n 3, 1) := by decide +kernel
theorem dX3_load_80 : decode cX3_load 80 = .ok (.bipush 120, 2) := by decide +kernel
theorem dX3_load_82 : decode cX3_load 82 = .ok (.if_icmp .lt 5, 3) := by decide +kernel
theorem dX3_load_85 : decode cX3_load 85 = .ok (.iconst 0, 1) := by decide +kernel
theorem dX3_load_86 : decode cX3_load 86 = .ok (.ireturn, 1) := by decide +kernel
theorem dX3_load_87 : decode cX3_load 87 = .ok (.aload_n 0, 1) := by decide +kernel
theorem dX3_load_88 : decode cX3_load 88 = .ok (.getfield 9, 3) := by decide +kernel
theorem dX3_load_91 : decode cX3_load 91 = .ok (.iload_n 3, 1) := by decide +kernel
theorem dX3_load_92 : decode cX3_load 92 = .ok (.iload 7, 2) := by decide +kernel
theorem dX3_load_94 : decode cX3_load 94 = .ok (.iastore, 1) := by decide +kernel
theorem dX3_load_95 : decode cX3_load 95 = .ok (.iinc 4 (-1), 3) := by decide +kernel
theorem dX3_load_98 : decode cX3_load 98 = .ok (.goto (-85), 3) := by decide +kernel
theorem dX3_load_101 : decode cX3_load 101 = .ok (.iload_n 3, 1) := by decide +kernel
theorem dX3_load_102 : decode cX3_load 102 = .ok (.bipush 120, 2) := by decide +kernel
theorem dX3_load_104 : decode cX3_load 104 = .ok (.if_icmp .ge 12, 3) := by decide +kernel
theorem dX3_load_107 : decode cX3_load 107 = .ok (.aload_n 0, 1) := by decide +kernel
theorem dX3_load_108 : decode cX3_load 108 = .ok (.getfield 9, 3) := by decide +kernel
theorem dX3_load_111 : decode cX3_load 111 = .ok (.iload_n 3, 1) := by decide +kernel
theorem dX3_load_112 : decode cX3_load 112 = .ok (.iaload, 1) := by decide +kernel
theorem dX3_load_113 : decode cX3_load 113 = .ok (.goto 4, 3) := by decide +kernel
theorem dX3_load_116 : decode cX3_load 116 = .ok (.iconst 0, 1) := by decide +kernel
theorem dX3_load_117 : decode cX3_load 117 = .ok (.ireturn, 1) := by decide +kernel
theorem dX3_save_0 : decode cX3_save 0 = .ok (.aload_n 0, 1) := by decide +kernel
theorem dX3_save_1 : decode cX3_save 1 = .ok (.getfield 25, 3) := by decide +kernel
theorem dX3_save_4 : decode cX3_save 4 = .ok (.getfield 43, 3) := by decide +kernel
theorem dX3_save_7 : decode cX3_save 7 = .ok (.iload_n 1, 1) := by decide +kernel
theorem dX3_save_8 : decode cX3_save 8 = .ok (.iaload, 1) := by decide +kernel
theorem dX3_save_9 : decode cX3_save 9 = .ok (.istore 4, 2) := by decide +kernel
theorem dX3_save_11 : decode cX3_save 11 = .ok (.iconst 1, 1) := by decide +kernel
theorem dX3_save_12 : decode cX3_save 12 = .ok (.istore 5, 2) := by decide +kernel
theorem dX3_save_14 : decode cX3_save 14 = .ok (.aload_n 0, 1) := by decide +kernel
theorem dX3_save_15 : decode cX3_save 15 = .ok (.getfield 9, 3) := by decide +kernel
theorem dX3_save_18 : decode cX3_save 18 = .ok (.iconst 0, 1) := by decide +kernel
theorem dX3_save_19 : decode cX3_save 19 = .ok (.iload_n 1, 1) := by decide +kernel
theorem dX3_save_20 : decode cX3_save 20 = .ok (.iastore, 1) := by decide +kernel
theorem dX3_save_21 : decode cX3_save 21 = .ok (.iconst 0, 1) := by decide +kernel
theorem dX3_save_22 : decode cX3_save 22 = .ok (.istore 6, 2) := by decide +kernel
theorem dX3_save_24 : decode cX3_save 24 = .ok (.iload 6, 2) := by decide +kernel
theorem dX3_save_26 : decode cX3_save 26 = .ok (.iload 4, 2) := by decide +kernel
theorem dX3_save_28 : decode cX3_save 28 = .ok (.if_icmp .ge 117, 3) := by decide +kernel
theorem dX3_save_31 : decode cX3_save 31 = .ok (.iload 6, 2) := by decide +kernel
theorem dX3_save_33 : decode cX3_save 33 = .ok (.bipush 120, 2) := by decide +kernel
theorem dX3_save_35 : decode cX3_save 35 = .ok (.if_icmp .ge 110, 3) := by decide +kernel
theorem dX3_save_38 : decode cX3_save 38 = .ok (.iload 5, 2) := by decide +kernel
theorem dX3_save_40 : decode cX3_save 40 = .ok (.ifCond .le 105, 3) := by decide +kernel
theorem dX3_save_43 : decode cX3_save 43 = .ok (.iinc 5 (-1), 3) := by decide +kernel
theorem dX3_save_46 : decode cX3_save 46 = .ok (.aload_n 0, 1) := by decide +kernel
theorem dX3_save_47 : decode cX3_save 47 = .ok (.getfield 9, 3) := by decide +kernel
theorem dX3_save_50 : decode cX3_save 50 = .ok (.iload 5, 2) := by decide +kernel
theorem dX3_save_52 : decode cX3_save 52 = .ok (.iaload, 1) := by decide +kernel
theorem dX3_save_53 : decode cX3_save 53 = .ok (.istore 7, 2) := by decide +kernel
theorem dX3_save_55 : decode cX3_save 55 = .ok (.aload_n 0, 1) := by decide +kernel
theorem dX3_save_56 : decode cX3_save 56 = .ok (.getfield 25, 3) := by decide +kernel
theorem dX3_save_59 : decode cX3_save 59 = .ok (.getfield 46, 3) := by decide +kernel
theorem dX3_save_62 : decode cX3_save 62 = .ok (.iload 7, 2) := by decide +kernel
theorem dX3_save_64 : decode cX3_save 64 = .ok (.iaload, 1) := by decide +kernel
theorem dX3_save_65 : decode cX3_save 65 = .ok (.istore 8, 2) := by decide +kernel
theorem dX3_save_67 : decode cX3_save 67 = .ok (.aload_n 2, 1) := by decide +kernel
theorem dX3_save_68 : decode cX3_save 68 = .ok (.getfield 34, 3) := by decide +kernel
theorem dX3_save_71 : decode cX3_save 71 = .ok (.iload_n 3, 1) := by decide +kernel
theorem dX3_save_72 : decode cX3_save 72 = .ok (.bipush 120, 2) := by decide +kernel
theorem dX3_save_74 : decode cX3_save 74 = .ok (.imul, 1) := by decide +kernel
theorem dX3_save_75 : decode cX3_save 75 = .ok (.iload 6, 2) := by decide +kernel
theorem dX3_save_77 : decode cX3_save 77 = .ok (.iadd, 1) := by decide +kernel
theorem dX3_save_78 : decode cX3_save 78 = .ok (.aload_n 0, 1) := by decide +kernel
theorem dX3_save_79 : decode cX3_save 79 = .ok (.getfield 25, 3) := by decide +kernel
theorem dX3_save_82 : decode cX3_save 82 = .ok (.getfield 49, 3) := by decide +kernel
theorem dX3_save_85 : decode cX3_save 85 = .ok (.iload 7, 2) := by decide +kernel
theorem dX3_save_87 : decode cX3_save 87 = .ok (.iaload, 1) := by decide +kernel
theorem dX3_save_88 : decode cX3_save 88 = .ok (.iload 8, 2) := by decide +kernel
theorem dX3_save_90 : decode cX3_save 90 = .ok (.iconst 5, 1) := by decide +kernel
theorem dX3_save_91 : decode cX3_save 91 = .ok (.ishl, 1) := by decide +kernel
theorem dX3_save_92 : decode cX3_save 92 = .ok (.ior, 1) := by decide +kernel
theorem dX3_save_93 : decode cX3_save 93 = .ok (.iastore, 1) := by decide +kernel
theorem dX3_save_94 : decode cX3_save 94 = .ok (.iload 8, 2) := by decide +kernel
theorem dX3_save_96 : decode cX3_save 96 = .ok (.iconst 1, 1) := by decide +kernel
theorem dX3_save_97 : decode cX3_save 97 = .ok (.isub, 1) := by decide +kernel
theorem dX3_save_98 : decode cX3_save 98 = .ok (.istore 9, 2) := by decide +kernel
theorem dX3_save_100 : decode cX3_save 100 = .ok (.iload 9, 2) := by decide +kernel
theorem dX3_save_102 : decode cX3_save 102 = .ok (.ifCond .lt 37, 3) := by decide +kernel
theorem dX3_save_105 : decode cX3_save 105 = .ok (.iload 5, 2) := by decide +kernel
theorem dX3_save_107 : decode cX3_save 107 = .ok (.bipush 120, 2) := by decide +kernel
theorem dX3_save_109 : decode cX3_save 109 = .ok (.if_icmp .ge 30, 3) := by decide +kernel
theorem dX3_save_112 : decode cX3_save 112 = .ok (.aload_n 0, 1) := by decide +kernel
theorem dX3_save_113 : decode cX3_save 113 = .ok (.getfield 9, 3) := by decide +kernel
theorem dX3_save_116 : decode cX3_save 116 = .ok (.iload 5, 2) := by decide +kernel
theorem dX3_save_118 : decode cX3_save 118 = .ok (.aload_n 0, 1) := by decide +kernel
theorem dX3_save_119 : decode cX3_save 119 = .ok (.getfield 25, 3) := by decide +kernel
theorem dX3_save_122 : decode cX3_save 122 = .ok (.iload 7, 2) := by decide +kernel
theorem dX3_save_124 : decode cX3_save 124 = .ok (.iload 9, 2) := by decide +kernel
theorem dX3_save_126 : decode cX3_save 126 = .ok (.invokevirtual 52, 3) := by decide +kernel
theorem dX3_save_129 : decode cX3_save 129 = .ok (.iastore, 1) := by decide +kernel
theorem dX3_save_130 : decode cX3_save 130 = .ok (.iinc 5 1, 3) := by decide +kernel
theorem dX3_save_133 : decode cX3_save 133 = .ok (.iinc 9 (-1), 3) := by decide +kernel
theorem dX3_save_136 : decode cX3_save 136 = .ok (.goto (-36), 3) := by decide +kernel
theorem dX3_save_139 : decode cX3_save 139 = .ok (.iinc 6 1, 3) := by decide +kernel
theorem dX3_save_142 : decode cX3_save 142 = .ok (.goto (-118), 3) := by decide +kernel
theorem dX3_save_145 : decode cX3_save 145 = .ok (.aload_n 2, 1) := by decide +kernel
theorem dX3_save_146 : decode cX3_save 146 = .ok (.getfield 29, 3) := by decide +kernel
theorem dX3_save_149 : decode cX3_save 149 = .ok (.iload_n 3, 1) := by decide +kernel
theorem dX3_save_150 : decode cX3_save 150 = .ok (.iload 4, 2) := by decide +kernel
theorem dX3_save_152 : decode cX3_save 152 = .ok (.iastore, 1) := by decide +kernel
theorem dX3_save_153 : decode cX3_save 153 = .ok (.return_, 1) := by decide +kernel
theorem dX3_spell_0 : decode cX3_spell 0 = .ok (.aload_n 0, 1) := by decide +kernel
theorem dX3_spell_1 : decode cX3_spell 1 = .ok (.iconst 0, 1) := by decide +kernel
theorem dX3_spell_2 : decode cX3_spell 2 = .ok (.putfield 56, 3) := by decide +kernel
theorem dX3_spell_5 : decode cX3_spell 5 = .ok (.aload_n 0, 1) := by decide +kernel
theorem dX3_spell_6 : decode cX3_spell 6 = .ok (.iconst 0, 1) := by decide +kernel
theorem dX3_spell_7 : decode cX3_spell 7 = .ok (.putfield 60, 3) := by decide +kernel
theorem dX3_spell_10 : decode cX3_spell 10 = .ok (.iconst 0, 1) := by decide +kernel
theorem dX3_spell_11 : decode cX3_spell 11 = .ok (.istore_n 3, 1) := by decide +kernel
theorem dX3_spell_12 : decode cX3_spell 12 = .ok (.iload_n 3, 1) := by decide +kernel
theorem dX3_spell_13 : decode cX3_spell 13 = .ok (.aload_n 1, 1) := by decide +kernel
theorem dX3_spell_14 : decode cX3_spell 14 = .ok (.getfield 29, 3) := by decide +kernel
theorem dX3_spell_17 : decode cX3_spell 17 = .ok (.iload_n 2, 1) := by decide +kernel
theorem dX3_spell_18 : decode cX3_spell 18 = .ok (.iaload, 1) := by decide +kernel
theorem dX3_spell_19 : decode cX3_spell 19 = .ok (.if_icmp .ge 131, 3) := by decide +kernel
theorem dX3_spell_22 : decode cX3_spell 22 = .ok (.aload_n 1, 1) := by decide +kernel
theorem dX3_spell_23 : decode cX3_spell 23 = .ok (.getfield 34, 3) := by decide +kernel
theorem dX3_spell_26 : decode cX3_spell 26 = .ok (.iload_n 2, 1) := by decide +kernel
theorem dX3_spell_27 : decode cX3_spell 27 = .ok (.bipush 120, 2) := by decide +kernel
theorem dX3_spell_29 : decode cX3_spell 29 = .ok (.imul, 1) := by decide +kernel
theorem dX3_spell_30 : decode cX3_spell 30 = .ok (.iload_n 3, 1) := by decide +kernel
theorem dX3_spell_31 : decode cX3_spell 31 = .ok (.iadd, 1) := by decide +kernel
theorem dX3_spell_32 : decode cX3_spell 32 = .ok (.iaload, 1) := by decide +kernel
theorem dX3_spell_33 : decode cX3_spell 33 = .ok (.istore 4, 2) := by decide +kernel
theorem dX3_spell_35 : decode cX3_spell 35 = .ok (.iload 4, 2) := by decide +kernel
theorem dX3_spell_37 : decode cX3_spell 37 = .ok (.iconst 5, 1) := by decide +kernel
theorem dX3_spell_38 : decode cX3_spell 38 = .ok (.ishr, 1) := by decide +kernel
theorem dX3_spell_39 : decode cX3_spell 39 = .ok (.istore 5, 2) := by decide +kernel
theorem dX3_spell_41 : decode cX3_spell 41 = .ok (.iload 4, 2) := by decide +kernel
theorem dX3_spell_43 : decode cX3_spell 43 = .ok (.bipush 31, 2) := by decide +kernel
theorem dX3_spell_45 : decode cX3_spell 45 = .ok (.iand, 1) := by decide +kernel
theorem dX3_spell_46 : decode cX3_spell 46 = .ok (.istore 6, 2) := by decide +kernel
theorem dX3_spell_48 : decode cX3_spell 48 = .ok (.iload 5, 2) := by decide +kernel
theorem dX3_spell_50 : decode cX3_spell 50 = .ok (.ifCond .ne 16, 3) := by decide +kernel
theorem dX3_spell_53 : decode cX3_spell 53 = .ok (.aload_n 0, 1) := by decide +kernel
theorem dX3_spell_54 : decode cX3_spell 54 = .ok (.iload 6, 2) := by decide +kernel
theorem dX3_spell_56 : decode cX3_spell 56 = .ok (.invokevirtual 63, 3) := by decide +kernel
theorem dX3_spell_59 : decode cX3_spell 59 = .ok (.aload_n 0, 1) := by decide +kernel
theorem dX3_spell_60 : decode cX3_spell 60 = .ok (.invokevirtual 67, 3) := by decide +kernel
theorem dX3_spell_63 : decode cX3_spell 63 = .ok (.goto 81, 3) := by decide +kernel
theorem dX3_spell_66 : decode cX3_spell 66 = .ok (.iload 5, 2) := by decide +kernel
theorem dX3_spell_68 : decode cX3_spell 68 = .ok (.iconst 1, 1) := by decide +kernel
theorem dX3_spell_69 : decode cX3_spell 69 = .ok (.if_icmp .ne 24, 3) := by decide +kernel
theorem dX3_spell_72 : decode cX3_spell 72 = .ok (.aload_n 0, 1) := by decide +kernel
theorem dX3_spell_73 : decode cX3_spell 73 = .ok (.iload 6, 2) := by decide +kernel
theorem dX3_spell_75 : decode cX3_spell 75 = .ok (.bipush 16, 2) := by decide +kernel
theorem dX3_spell_77 : decode cX3_spell 77 = .ok (.if_icmp .ne 8, 3) := by decide +kernel
theorem dX3_spell_80 : decode cX3_spell 80 = .ok (.bipush 88, 2) := by decide +kernel
theorem dX3_spell_82 : decode cX3_spell 82 = .ok (.goto 5, 3) := by decide +kernel
theorem dX3_spell_85 : decode cX3_spell 85 = .ok (.bipush 78, 2) := by decide +kernel
theorem dX3_spell_87 : decode cX3_spell 87 = .ok (.invokevirtual 70, 3) := by decide +kernel
theorem dX3_spell_90 : decode cX3_spell 90 = .ok (.goto 54, 3) := by decide +kernel
theorem dX3_spell_93 : decode cX3_spell 93 = .ok (.aload_n 0, 1) := by decide +kernel
theorem dX3_spell_94 : decode cX3_spell 94 = .ok (.getfield 60, 3) := by decide +kernel
theorem dX3_spell_97 : decode cX3_spell 97 = .ok (.bipush 120, 2) := by decide +kernel
theorem dX3_spell_99 : decode cX3_spell 99 = .ok (.if_icmp .ge 45, 3) := by decide +kernel
theorem dX3_spell_102 : decode cX3_spell 102 = .ok (.aload_n 0, 1) := by decide +kernel
theorem dX3_spell_103 : decode cX3_spell 103 = .ok (.bipush 40, 2) := by decide +kernel
theorem dX3_spell_105 : decode cX3_spell 105 = .ok (.invokevirtual 70, 3) := by decide +kernel
theorem dX3_spell_108 : decode cX3_spell 108 = .ok (.aload_n 0, 1) := by decide +kernel
theorem dX3_spell_109 : decode cX3_spell 109 = .ok (.getfield 19, 3) := by decide +kernel
theorem dX3_spell_112 : decode cX3_spell 112 = .ok (.aload_n 0, 1) := by decide +kernel
theorem dX3_spell_113 : decode cX3_spell 113 = .ok (.getfield 60, 3) := by decide +kernel
theorem dX3_spell_116 : decode cX3_spell 116 = .ok (.getstatic 74, 3) := by decide +kernel
theorem dX3_spell_119 : decode cX3_spell 119 = .ok (.iload 6, 2) := by decide +kernel
theorem dX3_spell_121 : decode cX3_spell 121 = .ok (.caload, 1) := by decide +kernel
theorem dX3_spell_122 : decode cX3_spell 122 = .ok (.castore, 1) := by decide +kernel
theorem dX3_spell_123 : decode cX3_spell 123 = .ok (.aload_n 0, 1) := by decide +kernel
theorem dX3_spell_124 : decode cX3_spell 124 = .ok (.getfield 22, 3) := by decide +kernel
theorem dX3_spell_127 : decode cX3_spell 127 = .ok (.aload_n 0, 1) := by decide +kernel
theorem dX3_spell_128 : decode cX3_spell 128 = .ok (.getfield 60, 3) := by decide +kernel
theorem dX3_spell_131 : decode cX3_spell 131 = .ok (.iload 5, 2) := by decide +kernel
theorem dX3_spell_133 : decode cX3_spell 133 = .ok (.iastore, 1) := by decide +kernel
theorem dX3_spell_134 : decode cX3_spell 134 = .ok (.aload_n 0, 1) := by decide +kernel
theorem dX3_spell_135 : decode cX3_spell 135 = .ok (.dup, 1) := by decide +kernel
theorem dX3_spell_136 : decode cX3_spell 136 = .ok (.getfield 60, 3) := by decide +kernel
theorem dX3_spell_139 : decode cX3_spell 139 = .ok (.iconst 1, 1) := by decide +kernel
theorem dX3_spell_140 : decode cX3_spell 140 = .ok (.iadd, 1) := by decide +kernel
theorem dX3_spell_141 : decode cX3_spell 141 = .ok (.putfield 60, 3) := by decide +kernel
theorem dX3_spell_144 : decode cX3_spell 144 = .ok (.iinc 3 1, 3) := by decide +kernel
theorem dX3_spell_147 : decode cX3_spell 147 = .ok (.goto (-135), 3) := by decide +kernel
theorem dX3_spell_150 : decode cX3_spell 150 = .ok (.aload_n 0, 1) := by decide +kernel
theorem dX3_spell_151 : decode cX3_spell 151 = .ok (.getfield 56, 3) := by decide +kernel
theorem dX3_spell_154 : decode cX3_spell 154 = .ok (.ireturn, 1) := by decide +kernel
theorem dX3_spellLeaf_0 : decode cX3_spellLeaf 0 = .ok (.iload_n 1, 1) := by decide +kernel
theorem dX3_spellLeaf_1 : decode cX3_spellLeaf 1 = .ok (.bipush 10, 2) := by decide +kernel
theorem dX3_spellLeaf_3 : decode cX3_spellLeaf 3 = .ok (.if_icmp .lt 9, 3) := by decide +kernel
theorem dX3_spellLeaf_6 : decode cX3_spellLeaf 6 = .ok (.aload_n 0, 1) := by decide +kernel
theorem dX3_spellLeaf_7 : decode cX3_spellLeaf 7 = .ok (.bipush 45, 2) := by decide +kernel
theorem dX3_spellLeaf_9 : decode cX3_spellLeaf 9 = .ok (.invokevirtual 70, 3) := by decide +kernel
theorem dX3_spellLeaf_12 : decode cX3_spellLeaf 12 = .ok (.aload_n 0, 1) := by decide +kernel
theorem dX3_spellLeaf_13 : decode cX3_spellLeaf 13 = .ok (.getstatic 77, 3) := by decide +kernel
theorem dX3_spellLeaf_16 : decode cX3_spellLeaf 16 = .ok (.iload_n 1, 1) := by decide +kernel
theorem dX3_spellLeaf_17 : decode cX3_spellLeaf 17 = .ok (.caload, 1) := by decide +kernel
theorem dX3_spellLeaf_18 : decode cX3_spellLeaf 18 = .ok (.invokevirtual 70, 3) := by decide +kernel
theorem dX3_spellLeaf_21 : decode cX3_spellLeaf 21 = .ok (.return_, 1) := by decide +kernel
theorem dX3_spellBehindForm_0 : decode cX3_spellBehindForm 0 = .ok (.aload_n 0, 1) := by decide +kernel
theorem dX3_spellBehindForm_1 : decode cX3_spellBehindForm 1 = .ok (.getfield 60, 3) := by decide +kernel
theorem dX3_spellBehindForm_4 : decode cX3_spellBehindForm 4 = .ok (.ifCond .le 59, 3) := by decide +kernel
theorem dX3_spellBehindForm_7 : decode cX3_spellBehindForm 7 = .ok (.aload_n 0, 1) := by decide +kernel
theorem dX3_spellBehindForm_8 : decode cX3_spellBehindForm 8 = .ok (.getfield 60, 3) := by decide +kernel
theorem dX3_spellBehindForm_11 : decode cX3_spellBehindForm 11 = .ok (.iconst 1, 1) := by decide +kernel
theorem dX3_spellBehindForm_12 : decode cX3_spellBehindForm 12 = .ok (.isub, 1) := by decide +kernel
theorem dX3_spellBehindForm_13 : decode cX3_spellBehindForm 13 = .ok (.istore_n 1, 1) := by decide +kernel
theorem dX3_spellBehindForm_14 : decode cX3_spellBehindForm 14 = .ok (.aload_n 0, 1) := by decide +kernel
theorem dX3_spellBehindForm_15 : decode cX3_spellBehindForm 15 = .ok (.getfield 22, 3) := by decide +kernel
theorem dX3_spellBehindForm_18 : decode cX3_spellBehindForm 18 = .ok (.iload_n 1, 1) := by decide +kernel
theorem dX3_spellBehindForm_19 : decode cX3_spellBehindForm 19 = .ok (.dup2, 1) := by decide +kernel
theorem dX3_spellBehindForm_20 : decode cX3_spellBehindForm 20 = .ok (.iaload, 1) := by decide +kernel
theorem dX3_spellBehindForm_21 : decode cX3_spellBehindForm 21 = .ok (.iconst 1, 1) := by decide +kernel
theorem dX3_spellBehindForm_22 : decode cX3_spellBehindForm 22 = .ok (.isub, 1) := by decide +kernel
theorem dX3_spellBehindForm_23 : decode cX3_spellBehindForm 23 = .ok (.iastore, 1) := by decide +kernel
theorem dX3_spellBehindForm_24 : decode cX3_spellBehindForm 24 = .ok (.aload_n 0, 1) := by decide +kernel
theorem dX3_spellBehindForm_25 : decode cX3_spellBehindForm 25 = .ok (.getfield 22, 3) := by decide +kernel
theorem dX3_spellBehindForm_28 : decode cX3_spellBehindForm 28 = .ok (.iload_n 1, 1) := by decide +kernel
theorem dX3_spellBehindForm_29 : decode cX3_spellBehindForm 29 = .ok (.iaload, 1) := by decide +kernel
theorem dX3_spellBehindForm_30 : decode cX3_spellBehindForm 30 = .ok (.ifCond .le 14, 3) := by decide +kernel
theorem dX3_spellBehindForm_33 : decode cX3_spellBehindForm 33 = .ok (.aload_n 0, 1) := by decide +kernel
theorem dX3_spellBehindForm_34 : decode cX3_spellBehindForm 34 = .ok (.aload_n 0, 1) := by decide +kernel
theorem dX3_spellBehindForm_35 : decode cX3_spellBehindForm 35 = .ok (.getfield 19, 3) := by decide +kernel
theorem dX3_spellBehindForm_38 : decode cX3_spellBehindForm 38 = .ok (.iload_n 1, 1) := by decide +kernel
theorem dX3_spellBehindForm_39 : decode cX3_spellBehindForm 39 = .ok (.caload, 1) := by decide +kernel
theorem dX3_spellBehindForm_40 : decode cX3_spellBehindForm 40 = .ok (.invokevirtual 70, 3) := by decide +kernel
theorem dX3_spellBehindForm_43 : decode cX3_spellBehindForm 43 = .ok (.return_, 1) := by decide +kernel
theorem dX3_spellBehindForm_44 : decode cX3_spellBehindForm 44 = .ok (.aload_n 0, 1) := by decide +kernel
theorem dX3_spellBehindForm_45 : decode cX3_spellBehindForm 45 = .ok (.bipush 41, 2) := by decide +kernel
theorem dX3_spellBehindForm_47 : decode cX3_spellBehindForm 47 = .ok (.invokevirtual 70, 3) := by decide +kernel
theorem dX3_spellBehindForm_50 : decode cX3_spellBehindForm 50 = .ok (.aload_n 0, 1) := by decide +kernel
theorem dX3_spellBehindForm_51 : decode cX3_spellBehindForm 51 = .ok (.dup, 1) := by decide +kernel
theorem dX3_spellBehindForm_52 : decode cX3_spellBehindForm 52 = .ok (.getfield 60, 3) := by decide +kernel
theorem dX3_spellBehindForm_55 : decode cX3_spellBehindForm 55 = .ok (.iconst 1, 1) := by decide +kernel
theorem dX3_spellBehindForm_56 : decode cX3_spellBehindForm 56 = .ok (.isub, 1) := by decide +kernel
theorem dX3_spellBehindForm_57 : decode cX3_spellBehindForm 57 = .ok (.putfield 60, 3) := by decide +kernel
theorem dX3_spellBehindForm_60 : decode cX3_spellBehindForm 60 = .ok (.goto (-60), 3) := by decide +kernel
theorem dX3_spellBehindForm_63 : decode cX3_spellBehindForm 63 = .ok (.return_, 1) := by decide +kernel
theorem dX3_write_0 : decode cX3_write 0 = .ok (.aload_n 0, 1) := by decide +kernel
theorem dX3_write_1 : decode cX3_write 1 = .ok (.getfield 56, 3) := by decide +kernel
theorem dX3_write_4 : decode cX3_write 4 = .ok (.sipush 360, 3) := by decide +kernel
theorem dX3_write_7 : decode cX3_write 7 = .ok (.if_icmp .ge 23, 3) := by decide +kernel
theorem dX3_write_10 : decode cX3_write 10 = .ok (.aload_n 0, 1) := by decide +kernel
theorem dX3_write_11 : decode cX3_write 11 = .ok (.getfield 15, 3) := by decide +kernel
theorem dX3_write_14 : decode cX3_write 14 = .ok (.aload_n 0, 1) := by decide +kernel
theorem dX3_write_15 : decode cX3_write 15 = .ok (.getfield 56, 3) := by decide +kernel
theorem dX3_write_18 : decode cX3_write 18 = .ok (.iload_n 1, 1) := by decide +kernel
theorem dX3_write_19 : decode cX3_write 19 = .ok (.castore, 1) := by decide +kernel
theorem dX3_write_20 : decode cX3_write 20 = .ok (.aload_n 0, 1) := by decide +kernel
theorem dX3_write_21 : decode cX3_write 21 = .ok (.dup, 1) := by decide +kernel
theorem dX3_write_22 : decode cX3_write 22 = .ok (.getfield 56, 3) := by decide +kernel
theorem dX3_write_25 : decode cX3_write 25 = .ok (.iconst 1, 1) := by decide +kernel
theorem dX3_write_26 : decode cX3_write 26 = .ok (.iadd, 1) := by decide +kernel
theorem dX3_write_27 : decode cX3_write 27 = .ok (.putfield 56, 3) := by decide +kernel
theorem dX3_write_30 : decode cX3_write 30 = .ok (.return_, 1) := by decide +kernel
theorem dX4_init_0 : decode cX4_init 0 = .ok (.aload_n 0, 1) := by decide +kernel
theorem dX4_init_1 : decode cX4_init 1 = .ok (.invokespecial 3, 3) := by decide +kernel
theorem dX4_init_4 : decode cX4_init 4 = .ok (.aload_n 0, 1) := by decide +kernel
theorem dX4_init_5 : decode cX4_init 5 = .ok (.bipush 40, 2) := by decide +kernel
theorem dX4_init_7 : decode cX4_init 7 = .ok (.newarray .int, 2) := by decide +kernel
theorem dX4_init_9 : decode cX4_init 9 = .ok (.putfield 9, 3) := by decide +kernel
theorem dX4_init_12 : decode cX4_init 12 = .ok (.aload_n 0, 1) := by decide +kernel
theorem dX4_init_13 : decode cX4_init 13 = .ok (.bipush 8, 2) := by decide +kernel
theorem dX4_init_15 : decode cX4_init 15 = .ok (.anewarray 15, 3) := by decide +kernel
theorem dX4_init_18 : decode cX4_init 18 = .ok (.putfield 17, 3) := by decide +kernel
theorem dX4_init_21 : decode cX4_init 21 = .ok (.iconst 0, 1) := by decide +kernel
theorem dX4_init_22 : decode cX4_init 22 = .ok (.istore_n 1, 1) := by decide +kernel
theorem dX4_init_23 : decode cX4_init 23 = .ok (.iload_n 1, 1) := by decide +kernel
theorem dX4_init_24 : decode cX4_init 24 = .ok (.bipush 8, 2) := by decide +kernel
theorem dX4_init_26 : decode cX4_init 26 = .ok (.if_icmp .ge 22, 3) := by decide +kernel
theorem dX4_init_29 : decode cX4_init 29 = .ok (.aload_n 0, 1) := by decide +kernel
theorem dX4_init_30 : decode cX4_init 30 = .ok (.getfield 17, 3) := by decide +kernel
theorem dX4_init_33 : decode cX4_init 33 = .ok (.iload_n 1, 1) := by decide +kernel
theorem dX4_init_34 : decode cX4_init 34 = .ok (.new 15, 3) := by decide +kernel
theorem dX4_init_37 : decode cX4_init 37 = .ok (.dup, 1) := by decide +kernel
theorem dX4_init_38 : decode cX4_init 38 = .ok (.invokespecial 21, 3) := by decide +kernel
theorem dX4_init_41 : decode cX4_init 41 = .ok (.aastore, 1) := by decide +kernel
theorem dX4_init_42 : decode cX4_init 42 = .ok (.iinc 1 1, 3) := by decide +kernel
theorem dX4_init_45 : decode cX4_init 45 = .ok (.goto (-22), 3) := by decide +kernel
theorem dX4_init_48 : decode cX4_init 48 = .ok (.return_, 1) := by decide +kernel
theorem dX4_copyFrom_0 : decode cX4_copyFrom 0 = .ok (.aload_n 0, 1) := by decide +kernel
theorem dX4_copyFrom_1 : decode cX4_copyFrom 1 = .ok (.aload_n 1, 1) := by decide +kernel
theorem dX4_copyFrom_2 : decode cX4_copyFrom 2 = .ok (.getfield 22, 3) := by decide +kernel
theorem dX4_copyFrom_5 : decode cX4_copyFrom 5 = .ok (.putfield 22, 3) := by decide +kernel
theorem dX4_copyFrom_8 : decode cX4_copyFrom 8 = .ok (.aload_n 0, 1) := by decide +kernel
theorem dX4_copyFrom_9 : decode cX4_copyFrom 9 = .ok (.aload_n 1, 1) := by decide +kernel
theorem dX4_copyFrom_10 : decode cX4_copyFrom 10 = .ok (.getfield 26, 3) := by decide +kernel
theorem dX4_copyFrom_13 : decode cX4_copyFrom 13 = .ok (.putfield 26, 3) := by decide +kernel
theorem dX4_copyFrom_16 : decode cX4_copyFrom 16 = .ok (.aload_n 0, 1) := by decide +kernel
theorem dX4_copyFrom_17 : decode cX4_copyFrom 17 = .ok (.aload_n 1, 1) := by decide +kernel
theorem dX4_copyFrom_18 : decode cX4_copyFrom 18 = .ok (.getfield 30, 3) := by decide +kernel
theorem dX4_copyFrom_21 : decode cX4_copyFrom 21 = .ok (.putfield 30, 3) := by decide +kernel
theorem dX4_copyFrom_24 : decode cX4_copyFrom 24 = .ok (.aload_n 1, 1) := by decide +kernel
theorem dX4_copyFrom_25 : decode cX4_copyFrom 25 = .ok (.getfield 9, 3) := by decide +kernel
theorem dX4_copyFrom_28 : decode cX4_copyFrom 28 = .ok (.iconst 0, 1) := by decide +kernel
theorem dX4_copyFrom_29 : decode cX4_copyFrom 29 = .ok (.aload_n 0, 1) := by decide +kernel
theorem dX4_copyFrom_30 : decode cX4_copyFrom 30 = .ok (.getfield 9, 3) := by decide +kernel
theorem dX4_copyFrom_33 : decode cX4_copyFrom 33 = .ok (.iconst 0, 1) := by decide +kernel
theorem dX4_copyFrom_34 : decode cX4_copyFrom 34 = .ok (.aload_n 0, 1) := by decide +kernel
theorem dX4_copyFrom_35 : decode cX4_copyFrom 35 = .ok (.getfield 26, 3) := by decide +kernel
theorem dX4_copyFrom_38 : decode cX4_copyFrom 38 = .ok (.invokestatic 33, 3) := by decide +kernel
theorem dX4_copyFrom_41 : decode cX4_copyFrom 41 = .ok (.iconst 0, 1) := by decide +kernel
theorem dX4_copyFrom_42 : decode cX4_copyFrom 42 = .ok (.istore_n 2, 1) := by decide +kernel
theorem dX4_copyFrom_43 : decode cX4_copyFrom 43 = .ok (.iload_n 2, 1) := by decide +kernel
theorem dX4_copyFrom_44 : decode cX4_copyFrom 44 = .ok (.aload_n 0, 1) := by decide +kernel
theorem dX4_copyFrom_45 : decode cX4_copyFrom 45 = .ok (.getfield 30, 3) := by decide +kernel
theorem dX4_copyFrom_48 : decode cX4_copyFrom 48 = .ok (.if_icmp .ge 24, 3) := by decide +kernel
theorem dX4_copyFrom_51 : decode cX4_copyFrom 51 = .ok (.aload_n 0, 1) := by decide +kernel
theorem dX4_copyFrom_52 : decode cX4_copyFrom 52 = .ok (.getfield 17, 3) := by decide +kernel
theorem dX4_copyFrom_55 : decode cX4_copyFrom 55 = .ok (.iload_n 2, 1) := by decide +kernel
theorem dX4_copyFrom_56 : decode cX4_copyFrom 56 = .ok (.aaload, 1) := by decide +kernel
theorem dX4_copyFrom_57 : decode cX4_copyFrom 57 = .ok (.aload_n 1, 1) := by decide +kernel
theorem dX4_copyFrom_58 : decode cX4_copyFrom 58 = .ok (.getfield 17, 3) := by decide +kernel
theorem dX4_copyFrom_61 : decode cX4_copyFrom 61 = .ok (.iload_n 2, 1) := by decide +kernel
theorem dX4_copyFrom_62 : decode cX4_copyFrom 62 = .ok (.aaload, 1) := by decide +kernel
theorem dX4_copyFrom_63 : decode cX4_copyFrom 63 = .ok (.invokevirtual 39, 3) := by decide +kernel
theorem dX4_copyFrom_66 : decode cX4_copyFrom 66 = .ok (.iinc 2 1, 3) := by decide +kernel
theorem dX4_copyFrom_69 : decode cX4_copyFrom 69 = .ok (.goto (-26), 3) := by decide +kernel
theorem dX4_copyFrom_72 : decode cX4_copyFrom 72 = .ok (.return_, 1) := by decide +kernel
theorem dX4_find_0 : decode cX4_find 0 = .ok (.iload_n 1, 1) := by decide +kernel
theorem dX4_find_1 : decode cX4_find 1 = .ok (.ifCond .lt 23, 3) := by decide +kernel
theorem dX4_find_4 : decode cX4_find 4 = .ok (.iload_n 1, 1) := by decide +kernel
theorem dX4_find_5 : decode cX4_find 5 = .ok (.aload_n 0, 1) := by decide +kernel
theorem dX4_find_6 : decode cX4_find 6 = .ok (.getfield 30, 3) := by decide +kernel
theorem dX4_find_9 : decode cX4_find 9 = .ok (.if_icmp .ge 15, 3) := by decide +kernel
theorem dX4_find_12 : decode cX4_find 12 = .ok (.aload_n 0, 1) := by decide +kernel
theorem dX4_find_13 : decode cX4_find 13 = .ok (.getfield 17, 3) := by decide +kernel
theorem dX4_find_16 : decode cX4_find 16 = .ok (.iload_n 1, 1) := by decide +kernel
theorem dX4_find_17 : decode cX4_find 17 = .ok (.aaload, 1) := by decide +kernel
theorem dX4_find_18 : decode cX4_find 18 = .ok (.getfield 43, 3) := by decide +kernel
theorem dX4_find_21 : decode cX4_find 21 = .ok (.ifCond .ne 5, 3) := by decide +kernel
theorem dX4_find_24 : decode cX4_find 24 = .ok (.aconst_null, 1) := by decide +kernel
theorem dX4_find_25 : decode cX4_find 25 = .ok (.areturn, 1) := by decide +kernel
theorem dX4_find_26 : decode cX4_find 26 = .ok (.aload_n 0, 1) := by decide +kernel
theorem dX4_find_27 : decode cX4_find 27 = .ok (.getfield 17, 3) := by decide +kernel
theorem dX4_find_30 : decode cX4_find 30 = .ok (.iload_n 1, 1) := by decide +kernel
theorem dX4_find_31 : decode cX4_find 31 = .ok (.aaload, 1) := by decide +kernel
theorem dX4_find_32 : decode cX4_find 32 = .ok (.areturn, 1) := by decide +kernel
theorem dX4_isOpen_0 : decode cX4_isOpen 0 = .ok (.aload_n 0, 1) := by decide +kernel
theorem dX4_isOpen_1 : decode cX4_isOpen 1 = .ok (.getfield 17, 3) := by decide +kernel
theorem dX4_isOpen_4 : decode cX4_isOpen 4 = .ok (.iload_n 1, 1) := by decide +kernel
theorem dX4_isOpen_5 : decode cX4_isOpen 5 = .ok (.aaload, 1) := by decide +kernel
theorem dX4_isOpen_6 : decode cX4_isOpen 6 = .ok (.getfield 43, 3) := by decide +kernel
theorem dX4_isOpen_9 : decode cX4_isOpen 9 = .ok (.ifCond .eq 20, 3) := by decide +kernel
theorem dX4_isOpen_12 : decode cX4_isOpen 12 = .ok (.aload_n 0, 1) := by decide +kernel
theorem dX4_isOpen_13 : decode cX4_isOpen 13 = .ok (.getfield 17, 3) := by decide +kernel
theorem dX4_isOpen_16 : decode cX4_isOpen 16 = .ok (.iload_n 1, 1) := by decide +kernel
theorem dX4_isOpen_17 : decode cX4_isOpen 17 = .ok (.aaload, 1) := by decide +kernel
theorem dX4_isOpen_18 : decode cX4_isOpen 18 = .ok (.getfield 46, 3) := by decide +kernel
theorem dX4_isOpen_21 : decode cX4_isOpen 21 = .ok (.iconst 2, 1) := by decide +kernel
theorem dX4_isOpen_22 : decode cX4_isOpen 22 = .ok (.if_icmp .ne 7, 3) := by decide +kernel
theorem dX4_isOpen_25 : decode cX4_isOpen 25 = .ok (.iconst 1, 1) := by decide +kernel
theorem dX4_isOpen_26 : decode cX4_isOpen 26 = .ok (.goto 4, 3) := by decide +kernel
theorem dX4_isOpen_29 : decode cX4_isOpen 29 = .ok (.iconst 0, 1) := by decide +kernel
theorem dX4_isOpen_30 : decode cX4_isOpen 30 = .ok (.ireturn, 1) := by decide +kernel
theorem dX4_rankOfOpen_0 : decode cX4_rankOfOpen 0 = .ok (.aload_n 0, 1) := by decide +kernel
theorem dX4_rankOfOpen_1 : decode cX4_rankOfOpen 1 = .ok (.getfield 17, 3) := by decide +kernel
theorem dX4_rankOfOpen_4 : decode cX4_rankOfOpen 4 = .ok (.iload_n 1, 1) := by decide +kernel
theorem dX4_rankOfOpen_5 : decode cX4_rankOfOpen 5 = .ok (.aaload, 1) := by decide +kernel
theorem dX4_rankOfOpen_6 : decode cX4_rankOfOpen 6 = .ok (.invokevirtual 49, 3) := by decide +kernel
theorem dX4_rankOfOpen_9 : decode cX4_rankOfOpen 9 = .ok (.istore_n 2, 1) := by decide +kernel
theorem dX4_rankOfOpen_10 : decode cX4_rankOfOpen 10 = .ok (.iconst 0, 1) := by decide +kernel
theorem dX4_rankOfOpen_11 : decode cX4_rankOfOpen 11 = .ok (.istore_n 3, 1) := by decide +kernel
theorem dX4_rankOfOpen_12 : decode cX4_rankOfOpen 12 = .ok (.iconst 0, 1) := by decide +kernel
theorem dX4_rankOfOpen_13 : decode cX4_rankOfOpen 13 = .ok (.istore 4, 2) := by decide +kernel
theorem dX4_rankOfOpen_15 : decode cX4_rankOfOpen 15 = .ok (.iload 4, 2) := by decide +kernel
theorem dX4_rankOfOpen_17 : decode cX4_rankOfOpen 17 = .ok (.aload_n 0, 1) := by decide +kernel
theorem dX4_rankOfOpen_18 : decode cX4_rankOfOpen 18 = .ok (.getfield 30, 3) := by decide +kernel
theorem dX4_rankOfOpen_21 : decode cX4_rankOfOpen 21 = .ok (.if_icmp .ge 51, 3) := by decide +kernel
theorem dX4_rankOfOpen_24 : decode cX4_rankOfOpen 24 = .ok (.aload_n 0, 1) := by decide +kernel
theorem dX4_rankOfOpen_25 : decode cX4_rankOfOpen 25 = .ok (.getfield 17, 3) := by decide +kernel
theorem dX4_rankOfOpen_28 : decode cX4_rankOfOpen 28 = .ok (.iload 4, 2) := by decide +kernel
theorem dX4_rankOfOpen_30 : decode cX4_rankOfOpen 30 = .ok (.aaload, 1) := by decide +kernel
theorem dX4_rankOfOpen_31 : decode cX4_rankOfOpen 31 = .ok (.invokevirtual 49, 3) := by decide +kernel
theorem dX4_rankOfOpen_34 : decode cX4_rankOfOpen 34 = .ok (.istore 5, 2) := by decide +kernel
theorem dX4_rankOfOpen_36 : decode cX4_rankOfOpen 36 = .ok (.aload_n 0, 1) := by decide +kernel
theorem dX4_rankOfOpen_37 : decode cX4_rankOfOpen 37 = .ok (.iload 4, 2) := by decide +kernel
theorem dX4_rankOfOpen_39 : decode cX4_rankOfOpen 39 = .ok (.invokevirtual 53, 3) := by decide +kernel
theorem dX4_rankOfOpen_42 : decode cX4_rankOfOpen 42 = .ok (.ifCond .eq 24, 3) := by decide +kernel
theorem dX4_rankOfOpen_45 : decode cX4_rankOfOpen 45 = .ok (.iload 5, 2) := by decide +kernel
theorem dX4_rankOfOpen_47 : decode cX4_rankOfOpen 47 = .ok (.iload_n 2, 1) := by decide +kernel
theorem dX4_rankOfOpen_48 : decode cX4_rankOfOpen 48 = .ok (.if_icmp .gt 15, 3) := by decide +kernel
theorem dX4_rankOfOpen_51 : decode cX4_rankOfOpen 51 = .ok (.iload 5, 2) := by decide +kernel
theorem dX4_rankOfOpen_53 : decode cX4_rankOfOpen 53 = .ok (.iload_n 2, 1) := by decide +kernel
theorem dX4_rankOfOpen_54 : decode cX4_rankOfOpen 54 = .ok (.if_icmp .ne 12, 3) := by decide +kernel
theorem dX4_rankOfOpen_57 : decode cX4_rankOfOpen 57 = .ok (.iload 4, 2) := by decide +kernel
theorem dX4_rankOfOpen_59 : decode cX4_rankOfOpen 59 = .ok (.iload_n 1, 1) := by decide +kernel
theorem dX4_rankOfOpen_60 : decode cX4_rankOfOpen 60 = .ok (.if_icmp .ge 6, 3) := by decide +kernel
theorem dX4_rankOfOpen_63 : decode cX4_rankOfOpen 63 = .ok (.iinc 3 1, 3) := by decide +kernel
theorem dX4_rankOfOpen_66 : decode cX4_rankOfOpen 66 = .ok (.iinc 4 1, 3) := by decide +kernel
theorem dX4_rankOfOpen_69 : decode cX4_rankOfOpen 69 = .ok (.goto (-54), 3) := by decide +kernel
theorem dX4_rankOfOpen_72 : decode cX4_rankOfOpen 72 = .ok (.iload_n 3, 1) := by decide +kernel
theorem dX4_rankOfOpen_73 : decode cX4_rankOfOpen 73 = .ok (.ireturn, 1) := by decide +kernel
theorem dX4_howManyThere_0 : decode cX4_howManyThere 0 = .ok (.aload_n 0, 1) := by decide +kernel
theorem dX4_howManyThere_1 : decode cX4_howManyThere 1 = .ok (.iconst 0, 1) := by decide +kernel
theorem dX4_howManyThere_2 : decode cX4_howManyThere 2 = .ok (.invokevirtual 57, 3) := by decide +kernel
theorem dX4_howManyThere_5 : decode cX4_howManyThere 5 = .ok (.aload_n 0, 1) := by decide +kernel
theorem dX4_howManyThere_6 : decode cX4_howManyThere 6 = .ok (.iconst 1, 1) := by decide +kernel
theorem dX4_howManyThere_7 : decode cX4_howManyThere 7 = .ok (.invokevirtual 57, 3) := by decide +kernel
theorem dX4_howManyThere_10 : decode cX4_howManyThere 10 = .ok (.iadd, 1) := by decide +kernel
theorem dX4_howManyThere_11 : decode cX4_howManyThere 11 = .ok (.aload_n 0, 1) := by decide +kernel
theorem dX4_howManyThere_12 : decode cX4_howManyThere 12 = .ok (.iconst 2, 1) := by decide +kernel
theorem dX4_howManyThere_13 : decode cX4_howManyThere 13 = .ok (.invokevirtual 57, 3) := by decide +kernel
theorem dX4_howManyThere_16 : decode cX4_howManyThere 16 = .ok (.iadd, 1) := by decide +kernel
theorem dX4_howManyThere_17 : decode cX4_howManyThere 17 = .ok (.ireturn, 1) := by decide +kernel
theorem dX4_howMany_0 : decode cX4_howMany 0 = .ok (.iconst 0, 1) := by decide +kernel
theorem dX4_howMany_1 : decode cX4_howMany 1 = .ok (.istore_n 2, 1) := by decide +kernel
theorem dX4_howMany_2 : decode cX4_howMany 2 = .ok (.iconst 0, 1) := by decide +kernel
theorem dX4_howMany_3 : decode cX4_howMany 3 = .ok (.istore_n 3, 1) := by decide +kernel
theorem dX4_howMany_4 : decode cX4_howMany 4 = .ok (.iload_n 3, 1) := by decide +kernel
theorem dX4_howMany_5 : decode cX4_howMany 5 = .ok (.aload_n 0, 1) := by decide +kernel
theorem dX4_howMany_6 : decode cX4_howMany 6 = .ok (.getfield 30, 3) := by decide +kernel
theorem dX4_howMany_9 : decode cX4_howMany 9 = .ok (.if_icmp .ge 37, 3) := by decide +kernel
theorem dX4_howMany_12 : decode cX4_howMany 12 = .ok (.aload_n 0, 1) := by decide +kernel
theorem dX4_howMany_13 : decode cX4_howMany 13 = .ok (.getfield 17, 3) := by decide +kernel
theorem dX4_howMany_16 : decode cX4_howMany 16 = .ok (.iload_n 3, 1) := by decide +kernel
theorem dX4_howMany_17 : decode cX4_howMany 17 = .ok (.aaload, 1) := by decide +kernel
theorem dX4_howMany_18 : decode cX4_howMany 18 = .ok (.getfield 43, 3) := by decide +kernel
theorem dX4_howMany_21 : decode cX4_howMany 21 = .ok (.ifCond .eq 19, 3) := by decide +kernel
theorem dX4_howMany_24 : decode cX4_howMany 24 = .ok (.aload_n 0, 1) := by decide +kernel
theorem dX4_howMany_25 : decode cX4_howMany 25 = .ok (.getfield 17, 3) := by decide +kernel
theorem dX4_howMany_28 : decode cX4_howMany 28 = .ok (.iload_n 3, 1) := by decide +kernel
theorem dX4_howMany_29 : decode cX4_howMany 29 = .ok (.aaload, 1) := by decide +kernel
theorem dX4_howMany_30 : decode cX4_howMany 30 = .ok (.getfield 46, 3) := by decide +kernel
theorem dX4_howMany_33 : decode cX4_howMany 33 = .ok (.iload_n 1, 1) := by decide +kernel
theorem dX4_howMany_34 : decode cX4_howMany 34 = .ok (.if_icmp .ne 6, 3) := by decide +kernel
theorem dX4_howMany_37 : decode cX4_howMany 37 = .ok (.iinc 2 1, 3) := by decide +kernel
theorem dX4_howMany_40 : decode cX4_howMany 40 = .ok (.iinc 3 1, 3) := by decide +kernel
theorem dX4_howMany_43 : decode cX4_howMany 43 = .ok (.goto (-39), 3) := by decide +kernel
theorem dX4_howMany_46 : decode cX4_howMany 46 = .ok (.iload_n 2, 1) := by decide +kernel
theorem dX4_howMany_47 : decode cX4_howMany 47 = .ok (.ireturn, 1) := by decide +kernel
theorem dX5_init_0 : decode cX5_init 0 = .ok (.aload_n 0, 1) := by decide +kernel
theorem dX5_init_1 : decode cX5_init 1 = .ok (.invokespecial 3, 3) := by decide +kernel
theorem dX5_init_4 : decode cX5_init 4 = .ok (.aload_n 0, 1) := by decide +kernel
theorem dX5_init_5 : decode cX5_init 5 = .ok (.bipush 8, 2) := by decide +kernel
theorem dX5_init_7 : decode cX5_init 7 = .ok (.newarray .int, 2) := by decide +kernel
theorem dX5_init_9 : decode cX5_init 9 = .ok (.putfield 9, 3) := by decide +kernel
theorem dX5_init_12 : decode cX5_init 12 = .ok (.aload_n 0, 1) := by decide +kernel
theorem dX5_init_13 : decode cX5_init 13 = .ok (.sipush 960, 3) := by decide +kernel
theorem dX5_init_16 : decode cX5_init 16 = .ok (.newarray .int, 2) := by decide +kernel
theorem dX5_init_18 : decode cX5_init 18 = .ok (.putfield 15, 3) := by decide +kernel
theorem dX5_init_21 : decode cX5_init 21 = .ok (.return_, 1) := by decide +kernel
theorem dX5_come_0 : decode cX5_come 0 = .ok (.aload_n 0, 1) := by decide +kernel
theorem dX5_come_1 : decode cX5_come 1 = .ok (.iconst 1, 1) := by decide +kernel
theorem dX5_come_2 : decode cX5_come 2 = .ok (.putfield 18, 3) := by decide +kernel
theorem dX5_come_5 : decode cX5_come 5 = .ok (.aload_n 0, 1) := by decide +kernel
theorem dX5_come_6 : decode cX5_come 6 = .ok (.iload_n 1, 1) := by decide +kernel
theorem dX5_come_7 : decode cX5_come 7 = .ok (.putfield 22, 3) := by decide +kernel
theorem dX5_come_10 : decode cX5_come 10 = .ok (.aload_n 0, 1) := by decide +kernel
theorem dX5_come_11 : decode cX5_come 11 = .ok (.aload_n 0, 1) := by decide +kernel
theorem dX5_come_12 : decode cX5_come 12 = .ok (.invokevirtual 26, 3) := by decide +kernel
theorem dX5_come_15 : decode cX5_come 15 = .ok (.putfield 30, 3) := by decide +kernel
theorem dX5_come_18 : decode cX5_come 18 = .ok (.aload_n 0, 1) := by decide +kernel
theorem dX5_come_19 : decode cX5_come 19 = .ok (.bipush (-5), 2) := by decide +kernel
theorem dX5_come_21 : decode cX5_come 21 = .ok (.putfield 33, 3) := by decide +kernel
theorem dX5_come_24 : decode cX5_come 24 = .ok (.aload_n 0, 1) := by decide +kernel
theorem dX5_come_25 : decode cX5_come 25 = .ok (.iconst 0, 1) := by decide +kernel
theorem dX5_come_26 : decode cX5_come 26 = .ok (.putfield 36, 3) := by decide +kernel
theorem dX5_come_29 : decode cX5_come 29 = .ok (.aload_n 0, 1) := by decide +kernel
theorem dX5_come_30 : decode cX5_come 30 = .ok (.iload_n 2, 1) := by decide +kernel
theorem dX5_come_31 : decode cX5_come 31 = .ok (.putfield 39, 3) := by decide +kernel
theorem dX5_come_34 : decode cX5_come 34 = .ok (.return_, 1) := by decide +kernel
theorem dX5_judge_0 : decode cX5_judge 0 = .ok (.aload_n 0, 1) := by decide +kernel
theorem dX5_judge_1 : decode cX5_judge 1 = .ok (.aload_n 0, 1) := by decide +kernel
theorem dX5_judge_2 : decode cX5_judge 2 = .ok (.invokevirtual 26, 3) := by decide +kernel
theorem dX5_judge_5 : decode cX5_judge 5 = .ok (.putfield 30, 3) := by decide +kernel
theorem dX5_judge_8 : decode cX5_judge 8 = .ok (.aload_n 0, 1) := by decide +kernel
theorem dX5_judge_9 : decode cX5_judge 9 = .ok (.getfield 30, 3) := by decide +kernel
theorem dX5_judge_12 : decode cX5_judge 12 = .ok (.iconst 2, 1) := by decide +kernel
theorem dX5_judge_13 : decode cX5_judge 13 = .ok (.if_icmp .ne 5, 3) := by decide +kernel
theorem dX5_judge_16 : decode cX5_judge 16 = .ok (.iconst 0, 1) := by decide +kernel
theorem dX5_judge_17 : decode cX5_judge 17 = .ok (.ireturn, 1) := by decide +kernel
theorem dX5_judge_18 : decode cX5_judge 18 = .ok (.aload_n 0, 1) := by decide +kernel
theorem dX5_judge_19 : decode cX5_judge 19 = .ok (.iload_n 1, 1) := by decide +kernel
theorem dX5_judge_20 : decode cX5_judge 20 = .ok (.putfield 33, 3) := by decide +kernel
theorem dX5_judge_23 : decode cX5_judge 23 = .ok (.iconst 1, 1) := by decide +kernel
theorem dX5_judge_24 : decode cX5_judge 24 = .ok (.ireturn, 1) := by decide +kernel
theorem dX5_copyFrom_0 : decode cX5_copyFrom 0 = .ok (.aload_n 0, 1) := by decide +kernel
theorem dX5_copyFrom_1 : decode cX5_copyFrom 1 = .ok (.aload_n 1, 1) := by decide +kernel
theorem dX5_copyFrom_2 : decode cX5_copyFrom 2 = .ok (.getfield 18, 3) := by decide +kernel
theorem dX5_copyFrom_5 : decode cX5_copyFrom 5 = .ok (.putfield 18, 3) := by decide +kernel
theorem dX5_copyFrom_8 : decode cX5_copyFrom 8 = .ok (.aload_n 0, 1) := by decide +kernel
theorem dX5_copyFrom_9 : decode cX5_copyFrom 9 = .ok (.aload_n 1, 1) := by decide +kernel
theorem dX5_copyFrom_10 : decode cX5_copyFrom 10 = .ok (.getfield 30, 3) := by decide +kernel
theorem dX5_copyFrom_13 : decode cX5_copyFrom 13 = .ok (.putfield 30, 3) := by decide +kernel
theorem dX5_copyFrom_16 : decode cX5_copyFrom 16 = .ok (.aload_n 0, 1) := by decide +kernel
theorem dX5_copyFrom_17 : decode cX5_copyFrom 17 = .ok (.aload_n 1, 1) := by decide +kernel
theorem dX5_copyFrom_18 : decode cX5_copyFrom 18 = .ok (.getfield 22, 3) := by decide +kernel
theorem dX5_copyFrom_21 : decode cX5_copyFrom 21 = .ok (.putfield 22, 3) := by decide +kernel
theorem dX5_copyFrom_24 : decode cX5_copyFrom 24 = .ok (.aload_n 0, 1) := by decide +kernel
theorem dX5_copyFrom_25 : decode cX5_copyFrom 25 = .ok (.aload_n 1, 1) := by decide +kernel
theorem dX5_copyFrom_26 : decode cX5_copyFrom 26 = .ok (.getfield 33, 3) := by decide +kernel
theorem dX5_copyFrom_29 : decode cX5_copyFrom 29 = .ok (.putfield 33, 3) := by decide +kernel
theorem dX5_copyFrom_32 : decode cX5_copyFrom 32 = .ok (.aload_n 0, 1) := by decide +kernel
theorem dX5_copyFrom_33 : decode cX5_copyFrom 33 = .ok (.aload_n 1, 1) := by decide +kernel
theorem dX5_copyFrom_34 : decode cX5_copyFrom 34 = .ok (.getfield 36, 3) := by decide +kernel
theorem dX5_copyFrom_37 : decode cX5_copyFrom 37 = .ok (.putfield 36, 3) := by decide +kernel
theorem dX5_copyFrom_40 : decode cX5_copyFrom 40 = .ok (.aload_n 0, 1) := by decide +kernel
theorem dX5_copyFrom_41 : decode cX5_copyFrom 41 = .ok (.aload_n 1, 1) := by decide +kernel
theorem dX5_copyFrom_42 : decode cX5_copyFrom 42 = .ok (.getfield 39, 3) := by decide +kernel
theorem dX5_copyFrom_45 : decode cX5_copyFrom 45 = .ok (.putfield 39, 3) := by decide +kernel
theorem dX5_copyFrom_48 : decode cX5_copyFrom 48 = .ok (.iconst 0, 1) := by decide +kernel
theorem dX5_copyFrom_49 : decode cX5_copyFrom 49 = .ok (.istore_n 2, 1) := by decide +kernel
theorem dX5_copyFrom_50 : decode cX5_copyFrom 50 = .ok (.iload_n 2, 1) := by decide +kernel
theorem dX5_copyFrom_51 : decode cX5_copyFrom 51 = .ok (.aload_n 0, 1) := by decide +kernel
theorem dX5_copyFrom_52 : decode cX5_copyFrom 52 = .ok (.getfield 22, 3) := by decide +kernel
theorem dX5_copyFrom_55 : decode cX5_copyFrom 55 = .ok (.if_icmp .ge 46, 3) := by decide +kernel
theorem dX5_copyFrom_58 : decode cX5_copyFrom 58 = .ok (.aload_n 0, 1) := by decide +kernel
theorem dX5_copyFrom_59 : decode cX5_copyFrom 59 = .ok (.getfield 9, 3) := by decide +kernel
theorem dX5_copyFrom_62 : decode cX5_copyFrom 62 = .ok (.iload_n 2, 1) := by decide +kernel
theorem dX5_copyFrom_63 : decode cX5_copyFrom 63 = .ok (.aload_n 1, 1) := by decide +kernel
theorem dX5_copyFrom_64 : decode cX5_copyFrom 64 = .ok (.getfield 9, 3) := by decide +kernel
theorem dX5_copyFrom_67 : decode cX5_copyFrom 67 = .ok (.iload_n 2, 1) := by decide +kernel
theorem dX5_copyFrom_68 : decode cX5_copyFrom 68 = .ok (.iaload, 1) := by decide +kernel
theorem dX5_copyFrom_69 : decode cX5_copyFrom 69 = .ok (.iastore, 1) := by decide +kernel
theorem dX5_copyFrom_70 : decode cX5_copyFrom 70 = .ok (.aload_n 1, 1) := by decide +kernel
theorem dX5_copyFrom_71 : decode cX5_copyFrom 71 = .ok (.getfield 15, 3) := by decide +kernel
theorem dX5_copyFrom_74 : decode cX5_copyFrom 74 = .ok (.iload_n 2, 1) := by decide +kernel
theorem dX5_copyFrom_75 : decode cX5_copyFrom 75 = .ok (.bipush 120, 2) := by decide +kernel
theorem dX5_copyFrom_77 : decode cX5_copyFrom 77 = .ok (.imul, 1) := by decide +kernel
theorem dX5_copyFrom_78 : decode cX5_copyFrom 78 = .ok (.aload_n 0, 1) := by decide +kernel
theorem dX5_copyFrom_79 : decode cX5_copyFrom 79 = .ok (.getfield 15, 3) := by decide +kernel
theorem dX5_copyFrom_82 : decode cX5_copyFrom 82 = .ok (.iload_n 2, 1) := by decide +kernel
theorem dX5_copyFrom_83 : decode cX5_copyFrom 83 = .ok (.bipush 120, 2) := by decide +kernel
theorem dX5_copyFrom_85 : decode cX5_copyFrom 85 = .ok (.imul, 1) := by decide +kernel
theorem dX5_copyFrom_86 : decode cX5_copyFrom 86 = .ok (.aload_n 0, 1) := by decide +kernel
theorem dX5_copyFrom_87 : decode cX5_copyFrom 87 = .ok (.getfield 9, 3) := by decide +kernel
theorem dX5_copyFrom_90 : decode cX5_copyFrom 90 = .ok (.iload_n 2, 1) := by decide +kernel
theorem dX5_copyFrom_91 : decode cX5_copyFrom 91 = .ok (.iaload, 1) := by decide +kernel
theorem dX5_copyFrom_92 : decode cX5_copyFrom 92 = .ok (.invokestatic 42, 3) := by decide +kernel
theorem dX5_copyFrom_95 : decode cX5_copyFrom 95 = .ok (.iinc 2 1, 3) := by decide +kernel
theorem dX5_copyFrom_98 : decode cX5_copyFrom 98 = .ok (.goto (-48), 3) := by decide +kernel
theorem dX5_copyFrom_101 : decode cX5_copyFrom 101 = .ok (.return_, 1) := by decide +kernel
theorem dX5_partsThatAre_0 : decode cX5_partsThatAre 0 = .ok (.iconst 0, 1) := by decide +kernel
theorem dX5_partsThatAre_1 : decode cX5_partsThatAre 1 = .ok (.istore_n 2, 1) := by decide +kernel
theorem dX5_partsThatAre_2 : decode cX5_partsThatAre 2 = .ok (.iconst 0, 1) := by decide +kernel
theorem dX5_partsThatAre_3 : decode cX5_partsThatAre 3 = .ok (.istore_n 3, 1) := by decide +kernel
theorem dX5_partsThatAre_4 : decode cX5_partsThatAre 4 = .ok (.iload_n 3, 1) := by decide +kernel
theorem dX5_partsThatAre_5 : decode cX5_partsThatAre 5 = .ok (.aload_n 0, 1) := by decide +kernel
theorem dX5_partsThatAre_6 : decode cX5_partsThatAre 6 = .ok (.getfield 22, 3) := by decide +kernel
theorem dX5_partsThatAre_9 : decode cX5_partsThatAre 9 = .ok (.if_icmp .ge 28, 3) := by decide +kernel
theorem dX5_partsThatAre_12 : decode cX5_partsThatAre 12 = .ok (.aload_n 0, 1) := by decide +kernel
theorem dX5_partsThatAre_13 : decode cX5_partsThatAre 13 = .ok (.getfield 15, 3) := by decide +kernel
theorem dX5_partsThatAre_16 : decode cX5_partsThatAre 16 = .ok (.iload_n 3, 1) := by decide +kernel
theorem dX5_partsThatAre_17 : decode cX5_partsThatAre 17 = .ok (.bipush 120, 2) := by decide +kernel
theorem dX5_partsThatAre_19 : decode cX5_partsThatAre 19 = .ok (.imul, 1) := by decide +kernel
theorem dX5_partsThatAre_20 : decode cX5_partsThatAre 20 = .ok (.iaload, 1) := by decide +kernel
theorem dX5_partsThatAre_21 : decode cX5_partsThatAre 21 = .ok (.iload_n 1, 1) := by decide +kernel
theorem dX5_partsThatAre_22 : decode cX5_partsThatAre 22 = .ok (.if_icmp .ne 9, 3) := by decide +kernel
theorem dX5_partsThatAre_25 : decode cX5_partsThatAre 25 = .ok (.iload_n 2, 1) := by decide +kernel
theorem dX5_partsThatAre_26 : decode cX5_partsThatAre 26 = .ok (.iconst 1, 1) := by decide +kernel
theorem dX5_partsThatAre_27 : decode cX5_partsThatAre 27 = .ok (.iload_n 3, 1) := by decide +kernel
theorem dX5_partsThatAre_28 : decode cX5_partsThatAre 28 = .ok (.ishl, 1) := by decide +kernel
theorem dX5_partsThatAre_29 : decode cX5_partsThatAre 29 = .ok (.ior, 1) := by decide +kernel
theorem dX5_partsThatAre_30 : decode cX5_partsThatAre 30 = .ok (.istore_n 2, 1) := by decide +kernel
theorem dX5_partsThatAre_31 : decode cX5_partsThatAre 31 = .ok (.iinc 3 1, 3) := by decide +kernel
theorem dX5_partsThatAre_34 : decode cX5_partsThatAre 34 = .ok (.goto (-30), 3) := by decide +kernel
theorem dX5_partsThatAre_37 : decode cX5_partsThatAre 37 = .ok (.iload_n 2, 1) := by decide +kernel
theorem dX5_partsThatAre_38 : decode cX5_partsThatAre 38 = .ok (.ireturn, 1) := by decide +kernel
theorem dX5_verdictOfParts_0 : decode cX5_verdictOfParts 0 = .ok (.aload_n 0, 1) := by decide +kernel
theorem dX5_verdictOfParts_1 : decode cX5_verdictOfParts 1 = .ok (.iconst 0, 1) := by decide +kernel
theorem dX5_verdictOfParts_2 : decode cX5_verdictOfParts 2 = .ok (.invokevirtual 48, 3) := by decide +kernel
theorem dX5_verdictOfParts_5 : decode cX5_verdictOfParts 5 = .ok (.ifCond .eq 5, 3) := by decide +kernel
theorem dX5_verdictOfParts_8 : decode cX5_verdictOfParts 8 = .ok (.iconst 0, 1) := by decide +kernel
theorem dX5_verdictOfParts_9 : decode cX5_verdictOfParts 9 = .ok (.ireturn, 1) := by decide +kernel
theorem dX5_verdictOfParts_10 : decode cX5_verdictOfParts 10 = .ok (.aload_n 0, 1) := by decide +kernel
theorem dX5_verdictOfParts_11 : decode cX5_verdictOfParts 11 = .ok (.iconst 1, 1) := by decide +kernel
theorem dX5_verdictOfParts_12 : decode cX5_verdictOfParts 12 = .ok (.invokevirtual 48, 3) := by decide +kernel
theorem dX5_verdictOfParts_15 : decode cX5_verdictOfParts 15 = .ok (.iconst 1, 1) := by decide +kernel
theorem dX5_verdictOfParts_16 : decode cX5_verdictOfParts 16 = .ok (.aload_n 0, 1) := by decide +kernel
theorem dX5_verdictOfParts_17 : decode cX5_verdictOfParts 17 = .ok (.getfield 22, 3) := by decide +kernel
theorem dX5_verdictOfParts_20 : decode cX5_verdictOfParts 20 = .ok (.ishl, 1) := by decide +kernel
theorem dX5_verdictOfParts_21 : decode cX5_verdictOfParts 21 = .ok (.iconst 1, 1) := by decide +kernel
theorem dX5_verdictOfParts_22 : decode cX5_verdictOfParts 22 = .ok (.isub, 1) := by decide +kernel
theorem dX5_verdictOfParts_23 : decode cX5_verdictOfParts 23 = .ok (.if_icmp .ne 7, 3) := by decide +kernel
theorem dX5_verdictOfParts_26 : decode cX5_verdictOfParts 26 = .ok (.iconst 1, 1) := by decide +kernel
theorem dX5_verdictOfParts_27 : decode cX5_verdictOfParts 27 = .ok (.goto 4, 3) := by decide +kernel
theorem dX5_verdictOfParts_30 : decode cX5_verdictOfParts 30 = .ok (.iconst 2, 1) := by decide +kernel
theorem dX5_verdictOfParts_31 : decode cX5_verdictOfParts 31 = .ok (.ireturn, 1) := by decide +kernel
theorem dX5_sizeOfParts_0 : decode cX5_sizeOfParts 0 = .ok (.iconst 0, 1) := by decide +kernel
theorem dX5_sizeOfParts_1 : decode cX5_sizeOfParts 1 = .ok (.istore_n 1, 1) := by decide +kernel
theorem dX5_sizeOfParts_2 : decode cX5_sizeOfParts 2 = .ok (.iconst 0, 1) := by decide +kernel
theorem dX5_sizeOfParts_3 : decode cX5_sizeOfParts 3 = .ok (.istore_n 2, 1) := by decide +kernel
theorem dX5_sizeOfParts_4 : decode cX5_sizeOfParts 4 = .ok (.iload_n 2, 1) := by decide +kernel
theorem dX5_sizeOfParts_5 : decode cX5_sizeOfParts 5 = .ok (.aload_n 0, 1) := by decide +kernel
theorem dX5_sizeOfParts_6 : decode cX5_sizeOfParts 6 = .ok (.getfield 22, 3) := by decide +kernel
theorem dX5_sizeOfParts_9 : decode cX5_sizeOfParts 9 = .ok (.if_icmp .ge 18, 3) := by decide +kernel
theorem dX5_sizeOfParts_12 : decode cX5_sizeOfParts 12 = .ok (.iload_n 1, 1) := by decide +kernel
theorem dX5_sizeOfParts_13 : decode cX5_sizeOfParts 13 = .ok (.aload_n 0, 1) := by decide +kernel
theorem dX5_sizeOfParts_14 : decode cX5_sizeOfParts 14 = .ok (.getfield 9, 3) := by decide +kernel
theorem dX5_sizeOfParts_17 : decode cX5_sizeOfParts 17 = .ok (.iload_n 2, 1) := by decide +kernel
theorem dX5_sizeOfParts_18 : decode cX5_sizeOfParts 18 = .ok (.iaload, 1) := by decide +kernel
theorem dX5_sizeOfParts_19 : decode cX5_sizeOfParts 19 = .ok (.iadd, 1) := by decide +kernel
theorem dX5_sizeOfParts_20 : decode cX5_sizeOfParts 20 = .ok (.istore_n 1, 1) := by decide +kernel
theorem dX5_sizeOfParts_21 : decode cX5_sizeOfParts 21 = .ok (.iinc 2 1, 3) := by decide +kernel
theorem dX5_sizeOfParts_24 : decode cX5_sizeOfParts 24 = .ok (.goto (-20), 3) := by decide +kernel
theorem dX5_sizeOfParts_27 : decode cX5_sizeOfParts 27 = .ok (.iload_n 1, 1) := by decide +kernel
theorem dX5_sizeOfParts_28 : decode cX5_sizeOfParts 28 = .ok (.ireturn, 1) := by decide +kernel
theorem dX6_init_0 : decode cX6_init 0 = .ok (.aload_n 0, 1) := by decide +kernel
theorem dX6_init_1 : decode cX6_init 1 = .ok (.invokespecial 3, 3) := by decide +kernel
theorem dX6_init_4 : decode cX6_init 4 = .ok (.aload_n 0, 1) := by decide +kernel
theorem dX6_init_5 : decode cX6_init 5 = .ok (.new 9, 3) := by decide +kernel
theorem dX6_init_8 : decode cX6_init 8 = .ok (.dup, 1) := by decide +kernel
theorem dX6_init_9 : decode cX6_init 9 = .ok (.invokespecial 11, 3) := by decide +kernel
theorem dX6_init_12 : decode cX6_init 12 = .ok (.putfield 12, 3) := by decide +kernel
theorem dX6_init_15 : decode cX6_init 15 = .ok (.aload_n 0, 1) := by decide +kernel
theorem dX6_init_16 : decode cX6_init 16 = .ok (.new 16, 3) := by decide +kernel
theorem dX6_init_19 : decode cX6_init 19 = .ok (.dup, 1) := by decide +kernel
theorem dX6_init_20 : decode cX6_init 20 = .ok (.aload_n 0, 1) := by decide +kernel
theorem dX6_init_21 : decode cX6_init 21 = .ok (.getfield 12, 3) := by decide +kernel
theorem dX6_init_24 : decode cX6_init 24 = .ok (.invokespecial 18, 3) := by decide +kernel
theorem dX6_init_27 : decode cX6_init 27 = .ok (.putfield 21, 3) := by decide +kernel
theorem dX6_init_30 : decode cX6_init 30 = .ok (.aload_n 0, 1) := by decide +kernel
theorem dX6_init_31 : decode cX6_init 31 = .ok (.new 25, 3) := by decide +kernel
theorem dX6_init_34 : decode cX6_init 34 = .ok (.dup, 1) := by decide +kernel
theorem dX6_init_35 : decode cX6_init 35 = .ok (.aload_n 0, 1) := by decide +kernel
theorem dX6_init_36 : decode cX6_init 36 = .ok (.getfield 12, 3) := by decide +kernel
theorem dX6_init_39 : decode cX6_init 39 = .ok (.invokespecial 27, 3) := by decide +kernel
theorem dX6_init_42 : decode cX6_init 42 = .ok (.putfield 28, 3) := by decide +kernel
theorem dX6_init_45 : decode cX6_init 45 = .ok (.aload_n 0, 1) := by decide +kernel
theorem dX6_init_46 : decode cX6_init 46 = .ok (.new 32, 3) := by decide +kernel
theorem dX6_init_49 : decode cX6_init 49 = .ok (.dup, 1) := by decide +kernel
theorem dX6_init_50 : decode cX6_init 50 = .ok (.aload_n 0, 1) := by decide +kernel
theorem dX6_init_51 : decode cX6_init 51 = .ok (.getfield 12, 3) := by decide +kernel
theorem dX6_init_54 : decode cX6_init 54 = .ok (.aload_n 0, 1) := by decide +kernel
theorem dX6_init_55 : decode cX6_init 55 = .ok (.getfield 21, 3) := by decide +kernel
theorem dX6_init_58 : decode cX6_init 58 = .ok (.invokespecial 34, 3) := by decide +kernel
theorem dX6_init_61 : decode cX6_init 61 = .ok (.putfield 37, 3) := by decide +kernel
theorem dX6_init_64 : decode cX6_init 64 = .ok (.aload_n 0, 1) := by decide +kernel
theorem dX6_init_65 : decode cX6_init 65 = .ok (.bipush 64, 2) := by decide +kernel
theorem dX6_init_67 : decode cX6_init 67 = .ok (.newarray .int, 2) := by decide +kernel
theorem dX6_init_69 : decode cX6_init 69 = .ok (.putfield 41, 3) := by decide +kernel
theorem dX6_init_72 : decode cX6_init 72 = .ok (.aload_n 0, 1) := by decide +kernel
theorem dX6_init_73 : decode cX6_init 73 = .ok (.bipush 64, 2) := by decide +kernel
theorem dX6_init_75 : decode cX6_init 75 = .ok (.newarray .int, 2) := by decide +kernel
theorem dX6_init_77 : decode cX6_init 77 = .ok (.putfield 45, 3) := by decide +kernel
theorem dX6_init_80 : decode cX6_init 80 = .ok (.aload_n 0, 1) := by decide +kernel
theorem dX6_init_81 : decode cX6_init 81 = .ok (.iconst 4, 1) := by decide +kernel
theorem dX6_init_82 : decode cX6_init 82 = .ok (.anewarray 48, 3) := by decide +kernel
theorem dX6_init_85 : decode cX6_init 85 = .ok (.putfield 50, 3) := by decide +kernel
theorem dX6_init_88 : decode cX6_init 88 = .ok (.aload_n 0, 1) := by decide +kernel
theorem dX6_init_89 : decode cX6_init 89 = .ok (.new 48, 3) := by decide +kernel
theorem dX6_init_92 : decode cX6_init 92 = .ok (.dup, 1) := by decide +kernel
theorem dX6_init_93 : decode cX6_init 93 = .ok (.invokespecial 54, 3) := by decide +kernel
theorem dX6_init_96 : decode cX6_init 96 = .ok (.putfield 55, 3) := by decide +kernel
theorem dX6_init_99 : decode cX6_init 99 = .ok (.aload_n 0, 1) := by decide +kernel
theorem dX6_init_100 : decode cX6_init 100 = .ok (.new 48, 3) := by decide +kernel
theorem dX6_init_103 : decode cX6_init 103 = .ok (.dup, 1) := by decide +kernel
theorem dX6_init_104 : decode cX6_init 104 = .ok (.invokespecial 54, 3) := by decide +kernel
theorem dX6_init_107 : decode cX6_init 107 = .ok (.putfield 59, 3) := by decide +kernel
theorem dX6_init_110 : decode cX6_init 110 = .ok (.aload_n 0, 1) := by decide +kernel
theorem dX6_init_111 : decode cX6_init 111 = .ok (.new 48, 3) := by decide +kernel
theorem dX6_init_114 : decode cX6_init 114 = .ok (.dup, 1) := by decide +kernel
theorem dX6_init_115 : decode cX6_init 115 = .ok (.invokespecial 54, 3) := by decide +kernel
theorem dX6_init_118 : decode cX6_init 118 = .ok (.putfield 62, 3) := by decide +kernel
theorem dX6_init_121 : decode cX6_init 121 = .ok (.iconst 0, 1) := by decide +kernel
theorem dX6_init_122 : decode cX6_init 122 = .ok (.istore_n 1, 1) := by decide +kernel
theorem dX6_init_123 : decode cX6_init 123 = .ok (.iload_n 1, 1) := by decide +kernel
theorem dX6_init_124 : decode cX6_init 124 = .ok (.iconst 4, 1) := by decide +kernel
theorem dX6_init_125 : decode cX6_init 125 = .ok (.if_icmp .ge 22, 3) := by decide +kernel
theorem dX6_init_128 : decode cX6_init 128 = .ok (.aload_n 0, 1) := by decide +kernel
theorem dX6_init_129 : decode cX6_init 129 = .ok (.getfield 50, 3) := by decide +kernel
theorem dX6_init_132 : decode cX6_init 132 = .ok (.iload_n 1, 1) := by decide +kernel
theorem dX6_init_133 : decode cX6_init 133 = .ok (.new 48, 3) := by decide +kernel
theorem dX6_init_136 : decode cX6_init 136 = .ok (.dup, 1) := by decide +kernel
theorem dX6_init_137 : decode cX6_init 137 = .ok (.invokespecial 54, 3) := by decide +kernel
theorem dX6_init_140 : decode cX6_init 140 = .ok (.aastore, 1) := by decide +kernel
theorem dX6_init_141 : decode cX6_init 141 = .ok (.iinc 1 1, 3) := by decide +kernel
theorem dX6_init_144 : decode cX6_init 144 = .ok (.goto (-21), 3) := by decide +kernel
theorem dX6_init_147 : decode cX6_init 147 = .ok (.return_, 1) := by decide +kernel
theorem dX6_event_0 : decode cX6_event 0 = .ok (.iload_n 1, 1) := by decide +kernel
theorem dX6_event_1 : decode cX6_event 1 = .ok (.ifCond .lt 9, 3) := by decide +kernel
theorem dX6_event_4 : decode cX6_event 4 = .ok (.iload_n 1, 1) := by decide +kernel
theorem dX6_event_5 : decode cX6_event 5 = .ok (.bipush 64, 2) := by decide +kernel
theorem dX6_event_7 : decode cX6_event 7 = .ok (.if_icmp .lt 6, 3) := by decide +kernel
theorem dX6_event_10 : decode cX6_event 10 = .ok (.bipush (-2), 2) := by decide +kernel
theorem dX6_event_12 : decode cX6_event 12 = .ok (.ireturn, 1) := by decide +kernel
theorem dX6_event_13 : decode cX6_event 13 = .ok (.aload_n 0, 1) := by decide +kernel
theorem dX6_event_14 : decode cX6_event 14 = .ok (.getfield 59, 3) := by decide +kernel
theorem dX6_event_17 : decode cX6_event 17 = .ok (.getfield 65, 3) := by decide +kernel
theorem dX6_event_20 : decode cX6_event 20 = .ok (.ifCond .eq 6, 3) := by decide +kernel
theorem dX6_event_23 : decode cX6_event 23 = .ok (.bipush (-4), 2) := by decide +kernel
theorem dX6_event_25 : decode cX6_event 25 = .ok (.ireturn, 1) := by decide +kernel
theorem dX6_event_26 : decode cX6_event 26 = .ok (.aload_n 0, 1) := by decide +kernel
theorem dX6_event_27 : decode cX6_event 27 = .ok (.getfield 59, 3) := by decide +kernel
theorem dX6_event_30 : decode cX6_event 30 = .ok (.getfield 69, 3) := by decide +kernel
theorem dX6_event_33 : decode cX6_event 33 = .ok (.bipush 40, 2) := by decide +kernel
theorem dX6_event_35 : decode cX6_event 35 = .ok (.if_icmp .lt 6, 3) := by decide +kernel
theorem dX6_event_38 : decode cX6_event 38 = .ok (.bipush (-3), 2) := by decide +kernel
theorem dX6_event_40 : decode cX6_event 40 = .ok (.ireturn, 1) := by decide +kernel
theorem dX6_event_41 : decode cX6_event 41 = .ok (.aload_n 0, 1) := by decide +kernel
theorem dX6_event_42 : decode cX6_event 42 = .ok (.getfield 62, 3) := by decide +kernel
theorem dX6_event_45 : decode cX6_event 45 = .ok (.astore_n 2, 1) := by decide +kernel
theorem dX6_event_46 : decode cX6_event 46 = .ok (.aload_n 2, 1) := by decide +kernel
theorem dX6_event_47 : decode cX6_event 47 = .ok (.aload_n 0, 1) := by decide +kernel
theorem dX6_event_48 : decode cX6_event 48 = .ok (.getfield 59, 3) := by decide +kernel
theorem dX6_event_51 : decode cX6_event 51 = .ok (.invokevirtual 73, 3) := by decide +kernel
theorem dX6_event_54 : decode cX6_event 54 = .ok (.iconst 0, 1) := by decide +kernel
theorem dX6_event_55 : decode cX6_event 55 = .ok (.istore_n 3, 1) := by decide +kernel
theorem dX6_event_56 : decode cX6_event 56 = .ok (.iconst 0, 1) := by decide +kernel
theorem dX6_event_57 : decode cX6_event 57 = .ok (.istore 4, 2) := by decide +kernel
theorem dX6_event_59 : decode cX6_event 59 = .ok (.iload 4, 2) := by decide +kernel
theorem dX6_event_61 : decode cX6_event 61 = .ok (.aload_n 0, 1) := by decide +kernel
theorem dX6_event_62 : decode cX6_event 62 = .ok (.getfield 59, 3) := by decide +kernel
theorem dX6_event_65 : decode cX6_event 65 = .ok (.getfield 77, 3) := by decide +kernel
theorem dX6_event_68 : decode cX6_event 68 = .ok (.if_icmp .ge 104, 3) := by decide +kernel
theorem dX6_event_71 : decode cX6_event 71 = .ok (.aload_n 0, 1) := by decide +kernel
theorem dX6_event_72 : decode cX6_event 72 = .ok (.getfield 59, 3) := by decide +kernel
theorem dX6_event_75 : decode cX6_event 75 = .ok (.getfield 80, 3) := by decide +kernel
theorem dX6_event_78 : decode cX6_event 78 = .ok (.iload 4, 2) := by decide +kernel
theorem dX6_event_80 : decode cX6_event 80 = .ok (.aaload, 1) := by decide +kernel
theorem dX6_event_81 : decode cX6_event 81 = .ok (.astore 5, 2) := by decide +kernel
theorem dX6_event_83 : decode cX6_event 83 = .ok (.aload_n 2, 1) := by decide +kernel
theorem dX6_event_84 : decode cX6_event 84 = .ok (.getfield 80, 3) := by decide +kernel
theorem dX6_event_87 : decode cX6_event 87 = .ok (.iload 4, 2) := by decide +kernel
theorem dX6_event_89 : decode cX6_event 89 = .ok (.aaload, 1) := by decide +kernel
theorem dX6_event_90 : decode cX6_event 90 = .ok (.astore 6, 2) := by decide +kernel
theorem dX6_event_92 : decode cX6_event 92 = .ok (.aload 5, 2) := by decide +kernel
theorem dX6_event_94 : decode cX6_event 94 = .ok (.getfield 84, 3) := by decide +kernel
theorem dX6_event_97 : decode cX6_event 97 = .ok (.ifCond .eq 69, 3) := by decide +kernel
theorem dX6_event_100 : decode cX6_event 100 = .ok (.aload_n 0, 1) := by decide +kernel
theorem dX6_event_101 : decode cX6_event 101 = .ok (.aload 5, 2) := by decide +kernel
theorem dX6_event_103 : decode cX6_event 103 = .ok (.aload 6, 2) := by decide +kernel
theorem dX6_event_105 : decode cX6_event 105 = .ok (.iload_n 1, 1) := by decide +kernel
theorem dX6_event_106 : decode cX6_event 106 = .ok (.invokevirtual 89, 3) := by decide +kernel
theorem dX6_event_109 : decode cX6_event 109 = .ok (.ifCond .ne 6, 3) := by decide +kernel
theorem dX6_event_112 : decode cX6_event 112 = .ok (.bipush (-3), 2) := by decide +kernel
theorem dX6_event_114 : decode cX6_event 114 = .ok (.ireturn, 1) := by decide +kernel
theorem dX6_event_115 : decode cX6_event 115 = .ok (.aload 5, 2) := by decide +kernel
theorem dX6_event_117 : decode cX6_event 117 = .ok (.getfield 93, 3) := by decide +kernel
theorem dX6_event_120 : decode cX6_event 120 = .ok (.iconst 2, 1) := by decide +kernel
theorem dX6_event_121 : decode cX6_event 121 = .ok (.if_icmp .ne 45, 3) := by decide +kernel
theorem dX6_event_124 : decode cX6_event 124 = .ok (.aload 6, 2) := by decide +kernel
theorem dX6_event_126 : decode cX6_event 126 = .ok (.aload_n 0, 1) := by decide +kernel
theorem dX6_event_127 : decode cX6_event 127 = .ok (.getfield 59, 3) := by decide +kernel
theorem dX6_event_130 : decode cX6_event 130 = .ok (.getfield 69, 3) := by decide +kernel
theorem dX6_event_133 : decode cX6_event 133 = .ok (.invokevirtual 96, 3) := by decide +kernel
theorem dX6_event_136 : decode cX6_event 136 = .ok (.ifCond .eq 30, 3) := by decide +kernel
theorem dX6_event_139 : decode cX6_event 139 = .ok (.aload 6, 2) := by decide +kernel
theorem dX6_event_141 : decode cX6_event 141 = .ok (.aload 6, 2) := by decide +kernel
theorem dX6_event_143 : decode cX6_event 143 = .ok (.getfield 93, 3) := by decide +kernel
theorem dX6_event_146 : decode cX6_event 146 = .ok (.ifCond .ne 13, 3) := by decide +kernel
theorem dX6_event_149 : decode cX6_event 149 = .ok (.aload_n 0, 1) := by decide +kernel
theorem dX6_event_150 : decode cX6_event 150 = .ok (.aload 5, 2) := by decide +kernel
theorem dX6_event_152 : decode cX6_event 152 = .ok (.iload_n 1, 1) := by decide +kernel
theorem dX6_event_153 : decode cX6_event 153 = .ok (.invokevirtual 100, 3) := by decide +kernel
theorem dX6_event_156 : decode cX6_event 156 = .ok (.goto 4, 3) := by decide +kernel
theorem dX6_event_159 : decode cX6_event 159 = .ok (.iconst 0, 1) := by decide +kernel
theorem dX6_event_160 : decode cX6_event 160 = .ok (.putfield 104, 3) := by decide +kernel
theorem dX6_event_163 : decode cX6_event 163 = .ok (.iinc 3 1, 3) := by decide +kernel
theorem dX6_event_166 : decode cX6_event 166 = .ok (.iinc 4 1, 3) := by decide +kernel
theorem dX6_event_169 : decode cX6_event 169 = .ok (.goto (-110), 3) := by decide +kernel
theorem dX6_event_172 : decode cX6_event 172 = .ok (.aload_n 2, 1) := by decide +kernel
theorem dX6_event_173 : decode cX6_event 173 = .ok (.getfield 107, 3) := by decide +kernel
theorem dX6_event_176 : decode cX6_event 176 = .ok (.aload_n 2, 1) := by decide +kernel
theorem dX6_event_177 : decode cX6_event 177 = .ok (.getfield 69, 3) := by decide +kernel
theorem dX6_event_180 : decode cX6_event 180 = .ok (.iload_n 1, 1) := by decide +kernel
theorem dX6_event_181 : decode cX6_event 181 = .ok (.iastore, 1) := by decide +kernel
theorem dX6_event_182 : decode cX6_event 182 = .ok (.aload_n 2, 1) := by decide +kernel
theorem dX6_event_183 : decode cX6_event 183 = .ok (.dup, 1) := by decide +kernel
theorem dX6_event_184 : decode cX6_event 184 = .ok (.getfield 69, 3) := by decide +kernel
theorem dX6_event_187 : decode cX6_event 187 = .ok (.iconst 1, 1) := by decide +kernel
theorem dX6_event_188 : decode cX6_event 188 = .ok (.iadd, 1) := by decide +kernel
theorem dX6_event_189 : decode cX6_event 189 = .ok (.putfield 69, 3) := by decide +kernel
theorem dX6_event_192 : decode cX6_event 192 = .ok (.aload_n 0, 1) := by decide +kernel
theorem dX6_event_193 : decode cX6_event 193 = .ok (.invokevirtual 110, 3) := by decide +kernel
theorem dX6_event_196 : decode cX6_event 196 = .ok (.iload_n 3, 1) := by decide +kernel
theorem dX6_event_197 : decode cX6_event 197 = .ok (.ireturn, 1) := by decide +kernel
theorem dX6_end_0 : decode cX6_end 0 = .ok (.aload_n 0, 1) := by decide +kernel
theorem dX6_end_1 : decode cX6_end 1 = .ok (.getfield 59, 3) := by decide +kernel
theorem dX6_end_4 : decode cX6_end 4 = .ok (.getfield 65, 3) := by decide +kernel
theorem dX6_end_7 : decode cX6_end 7 = .ok (.ifCond .eq 6, 3) := by decide +kernel
theorem dX6_end_10 : decode cX6_end 10 = .ok (.bipush (-4), 2) := by decide +kernel
theorem dX6_end_12 : decode cX6_end 12 = .ok (.ireturn, 1) := by decide +kernel
theorem dX6_end_13 : decode cX6_end 13 = .ok (.aload_n 0, 1) := by decide +kernel
theorem dX6_end_14 : decode cX6_end 14 = .ok (.getfield 62, 3) := by decide +kernel
theorem dX6_end_17 : decode cX6_end 17 = .ok (.astore_n 1, 1) := by decide +kernel
theorem dX6_end_18 : decode cX6_end 18 = .ok (.aload_n 1, 1) := by decide +kernel
theorem dX6_end_19 : decode cX6_end 19 = .ok (.aload_n 0, 1) := by decide +kernel
theorem dX6_end_20 : decode cX6_end 20 = .ok (.getfield 59, 3) := by decide +kernel
theorem dX6_end_23 : decode cX6_end 23 = .ok (.invokevirtual 73, 3) := by decide +kernel
theorem dX6_end_26 : decode cX6_end 26 = .ok (.aload_n 1, 1) := by decide +kernel
theorem dX6_end_27 : decode cX6_end 27 = .ok (.iconst 1, 1) := by decide +kernel
theorem dX6_end_28 : decode cX6_end 28 = .ok (.putfield 65, 3) := by decide +kernel
theorem dX6_end_31 : decode cX6_end 31 = .ok (.iconst 0, 1) := by decide +kernel
theorem dX6_end_32 : decode cX6_end 32 = .ok (.istore_n 2, 1) := by decide +kernel
theorem dX6_end_33 : decode cX6_end 33 = .ok (.iconst 0, 1) := by decide +kernel
theorem dX6_end_34 : decode cX6_end 34 = .ok (.istore_n 3, 1) := by decide +kernel
theorem dX6_end_35 : decode cX6_end 35 = .ok (.iload_n 3, 1) := by decide +kernel
theorem dX6_end_36 : decode cX6_end 36 = .ok (.aload_n 1, 1) := by decide +kernel
theorem dX6_end_37 : decode cX6_end 37 = .ok (.getfield 77, 3) := by decide +kernel
theorem dX6_end_40 : decode cX6_end 40 = .ok (.if_icmp .ge 58, 3) := by decide +kernel
theorem dX6_end_43 : decode cX6_end 43 = .ok (.aload_n 1, 1) := by decide +kernel
theorem dX6_end_44 : decode cX6_end 44 = .ok (.getfield 80, 3) := by decide +kernel
theorem dX6_end_47 : decode cX6_end 47 = .ok (.iload_n 3, 1) := by decide +kernel
theorem dX6_end_48 : decode cX6_end 48 = .ok (.aaload, 1) := by decide +kernel
theorem dX6_end_49 : decode cX6_end 49 = .ok (.astore 4, 2) := by decide +kernel
theorem dX6_end_51 : decode cX6_end 51 = .ok (.aload 4, 2) := by decide +kernel
theorem dX6_end_53 : decode cX6_end 53 = .ok (.getfield 84, 3) := by decide +kernel
theorem dX6_end_56 : decode cX6_end 56 = .ok (.ifCond .eq 36, 3) := by decide +kernel
theorem dX6_end_59 : decode cX6_end 59 = .ok (.aload 4, 2) := by decide +kernel
theorem dX6_end_61 : decode cX6_end 61 = .ok (.getfield 93, 3) := by decide +kernel
theorem dX6_end_64 : decode cX6_end 64 = .ok (.iconst 2, 1) := by decide +kernel
theorem dX6_end_65 : decode cX6_end 65 = .ok (.if_icmp .ne 27, 3) := by decide +kernel
theorem dX6_end_68 : decode cX6_end 68 = .ok (.aload_n 0, 1) := by decide +kernel
theorem dX6_end_69 : decode cX6_end 69 = .ok (.aload 4, 2) := by decide +kernel
theorem dX6_end_71 : decode cX6_end 71 = .ok (.invokevirtual 113, 3) := by decide +kernel
theorem dX6_end_74 : decode cX6_end 74 = .ok (.aload 4, 2) := by decide +kernel
theorem dX6_end_76 : decode cX6_end 76 = .ok (.aload 4, 2) := by decide +kernel
theorem dX6_end_78 : decode cX6_end 78 = .ok (.invokevirtual 117, 3) := by decide +kernel
theorem dX6_end_81 : decode cX6_end 81 = .ok (.putfield 93, 3) := by decide +kernel
theorem dX6_end_84 : decode cX6_end 84 = .ok (.iload_n 2, 1) := by decide +kernel
theorem dX6_end_85 : decode cX6_end 85 = .ok (.aload 4, 2) := by decide +kernel
theorem dX6_end_87 : decode cX6_end 87 = .ok (.getfield 93, 3) := by decide +kernel
theorem dX6_end_90 : decode cX6_end 90 = .ok (.iadd, 1) := by decide +kernel
theorem dX6_end_91 : decode cX6_end 91 = .ok (.istore_n 2, 1) := by decide +kernel
theorem dX6_end_92 : decode cX6_end 92 = .ok (.iinc 3 1, 3) := by decide +kernel
theorem dX6_end_95 : decode cX6_end 95 = .ok (.goto (-60), 3) := by decide +kernel
theorem dX6_end_98 : decode cX6_end 98 = .ok (.aload_n 0, 1) := by decide +kernel
theorem dX6_end_99 : decode cX6_end 99 = .ok (.invokevirtual 110, 3) := by decide +kernel
theorem dX6_end_102 : decode cX6_end 102 = .ok (.iload_n 2, 1) := by decide +kernel
theorem dX6_end_103 : decode cX6_end 103 = .ok (.ireturn, 1) := by decide +kernel
theorem dX6_addWish_0 : decode cX6_addWish 0 = .ok (.aload_n 0, 1) := by decide +kernel
theorem dX6_addWish_1 : decode cX6_addWish 1 = .ok (.getfield 37, 3) := by decide +kernel
theorem dX6_addWish_4 : decode cX6_addWish 4 = .ok (.invokevirtual 121, 3) := by decide +kernel
theorem dX6_addWish_7 : decode cX6_addWish 7 = .ok (.istore_n 1, 1) := by decide +kernel
theorem dX6_addWish_8 : decode cX6_addWish 8 = .ok (.iload_n 1, 1) := by decide +kernel
theorem dX6_addWish_9 : decode cX6_addWish 9 = .ok (.ifCond .lt 8, 3) := by decide +kernel
theorem dX6_addWish_12 : decode cX6_addWish 12 = .ok (.bipush (-100), 2) := by decide +kernel
theorem dX6_addWish_14 : decode cX6_addWish 14 = .ok (.iload_n 1, 1) := by decide +kernel
theorem dX6_addWish_15 : decode cX6_addWish 15 = .ok (.isub, 1) := by decide +kernel
theorem dX6_addWish_16 : decode cX6_addWish 16 = .ok (.ireturn, 1) := by decide +kernel
theorem dX6_addWish_17 : decode cX6_addWish 17 = .ok (.aload_n 0, 1) := by decide +kernel
theorem dX6_addWish_18 : decode cX6_addWish 18 = .ok (.getfield 59, 3) := by decide +kernel
theorem dX6_addWish_21 : decode cX6_addWish 21 = .ok (.getfield 65, 3) := by decide +kernel
theorem dX6_addWish_24 : decode cX6_addWish 24 = .ok (.ifCond .eq 6, 3) := by decide +kernel
theorem dX6_addWish_27 : decode cX6_addWish 27 = .ok (.bipush (-4), 2) := by decide +kernel
theorem dX6_addWish_29 : decode cX6_addWish 29 = .ok (.ireturn, 1) := by decide +kernel
theorem dX6_addWish_30 : decode cX6_addWish 30 = .ok (.aload_n 0, 1) := by decide +kernel
theorem dX6_addWish_31 : decode cX6_addWish 31 = .ok (.getfield 59, 3) := by decide +kernel
theorem dX6_addWish_34 : decode cX6_addWish 34 = .ok (.getfield 77, 3) := by decide +kernel
theorem dX6_addWish_37 : decode cX6_addWish 37 = .ok (.bipush 8, 2) := by decide +kernel
theorem dX6_addWish_39 : decode cX6_addWish 39 = .ok (.if_icmp .lt 6, 3) := by decide +kernel
theorem dX6_addWish_42 : decode cX6_addWish 42 = .ok (.bipush (-3), 2) := by decide +kernel
theorem dX6_addWish_44 : decode cX6_addWish 44 = .ok (.ireturn, 1) := by decide +kernel
theorem dX6_addWish_45 : decode cX6_addWish 45 = .ok (.aload_n 0, 1) := by decide +kernel
theorem dX6_addWish_46 : decode cX6_addWish 46 = .ok (.getfield 12, 3) := by decide +kernel
theorem dX6_addWish_49 : decode cX6_addWish 49 = .ok (.bipush 16, 2) := by decide +kernel
theorem dX6_addWish_51 : decode cX6_addWish 51 = .ok (.invokevirtual 124, 3) := by decide +kernel
theorem dX6_addWish_54 : decode cX6_addWish 54 = .ok (.aload_n 0, 1) := by decide +kernel
theorem dX6_addWish_55 : decode cX6_addWish 55 = .ok (.aload_n 0, 1) := by decide +kernel
theorem dX6_addWish_56 : decode cX6_addWish 56 = .ok (.getfield 37, 3) := by decide +kernel
theorem dX6_addWish_59 : decode cX6_addWish 59 = .ok (.invokevirtual 128, 3) := by decide +kernel
theorem dX6_addWish_62 : decode cX6_addWish 62 = .ok (.invokevirtual 131, 3) := by decide +kernel
theorem dX6_addWish_65 : decode cX6_addWish 65 = .ok (.ireturn, 1) := by decide +kernel
theorem dX6_join_0 : decode cX6_join 0 = .ok (.aload_n 0, 1) := by decide +kernel
theorem dX6_join_1 : decode cX6_join 1 = .ok (.getfield 59, 3) := by decide +kernel
theorem dX6_join_4 : decode cX6_join 4 = .ok (.iload_n 1, 1) := by decide +kernel
theorem dX6_join_5 : decode cX6_join 5 = .ok (.invokevirtual 135, 3) := by decide +kernel
theorem dX6_join_8 : decode cX6_join 8 = .ok (.astore 4, 2) := by decide +kernel
theorem dX6_join_10 : decode cX6_join 10 = .ok (.aload_n 0, 1) := by decide +kernel
theorem dX6_join_11 : decode cX6_join 11 = .ok (.getfield 59, 3) := by decide +kernel
theorem dX6_join_14 : decode cX6_join 14 = .ok (.iload_n 2, 1) := by decide +kernel
theorem dX6_join_15 : decode cX6_join 15 = .ok (.invokevirtual 135, 3) := by decide +kernel
theorem dX6_join_18 : decode cX6_join 18 = .ok (.astore 5, 2) := by decide +kernel
theorem dX6_join_20 : decode cX6_join 20 = .ok (.aload 4, 2) := by decide +kernel
theorem dX6_join_22 : decode cX6_join 22 = .ok (.ifnull 8, 3) := by decide +kernel
theorem dX6_join_25 : decode cX6_join 25 = .ok (.aload 5, 2) := by decide +kernel
theorem dX6_join_27 : decode cX6_join 27 = .ok (.ifnonnull 5, 3) := by decide +kernel
theorem dX6_join_30 : decode cX6_join 30 = .ok (.iconst (-1), 1) := by decide +kernel
theorem dX6_join_31 : decode cX6_join 31 = .ok (.ireturn, 1) := by decide +kernel
theorem dX6_join_32 : decode cX6_join 32 = .ok (.aload_n 0, 1) := by decide +kernel
theorem dX6_join_33 : decode cX6_join 33 = .ok (.getfield 59, 3) := by decide +kernel
theorem dX6_join_36 : decode cX6_join 36 = .ok (.getfield 65, 3) := by decide +kernel
theorem dX6_join_39 : decode cX6_join 39 = .ok (.ifCond .eq 6, 3) := by decide +kernel
theorem dX6_join_42 : decode cX6_join 42 = .ok (.bipush (-4), 2) := by decide +kernel
theorem dX6_join_44 : decode cX6_join 44 = .ok (.ireturn, 1) := by decide +kernel
theorem dX6_join_45 : decode cX6_join 45 = .ok (.aload_n 0, 1) := by decide +kernel
theorem dX6_join_46 : decode cX6_join 46 = .ok (.getfield 59, 3) := by decide +kernel
theorem dX6_join_49 : decode cX6_join 49 = .ok (.getfield 77, 3) := by decide +kernel
theorem dX6_join_52 : decode cX6_join 52 = .ok (.bipush 8, 2) := by decide +kernel
theorem dX6_join_54 : decode cX6_join 54 = .ok (.if_icmp .lt 6, 3) := by decide +kernel
theorem dX6_join_57 : decode cX6_join 57 = .ok (.bipush (-3), 2) := by decide +kernel
theorem dX6_join_59 : decode cX6_join 59 = .ok (.ireturn, 1) := by decide +kernel
theorem dX6_join_60 : decode cX6_join 60 = .ok (.aload_n 0, 1) := by decide +kernel
theorem dX6_join_61 : decode cX6_join 61 = .ok (.getfield 12, 3) := by decide +kernel
theorem dX6_join_64 : decode cX6_join 64 = .ok (.bipush 16, 2) := by decide +kernel
theorem dX6_join_66 : decode cX6_join 66 = .ok (.invokevirtual 124, 3) := by decide +kernel
theorem dX6_join_69 : decode cX6_join 69 = .ok (.aload_n 0, 1) := by decide +kernel
theorem dX6_join_70 : decode cX6_join 70 = .ok (.aload 4, 2) := by decide +kernel
theorem dX6_join_72 : decode cX6_join 72 = .ok (.invokevirtual 139, 3) := by decide +kernel
theorem dX6_join_75 : decode cX6_join 75 = .ok (.istore 6, 2) := by decide +kernel
theorem dX6_join_77 : decode cX6_join 77 = .ok (.aload_n 0, 1) := by decide +kernel
theorem dX6_join_78 : decode cX6_join 78 = .ok (.aload 5, 2) := by decide +kernel
theorem dX6_join_80 : decode cX6_join 80 = .ok (.invokevirtual 139, 3) := by decide +kernel
theorem dX6_join_83 : decode cX6_join 83 = .ok (.istore 7, 2) := by decide +kernel
theorem dX6_join_85 : decode cX6_join 85 = .ok (.aload_n 0, 1) := by decide +kernel
theorem dX6_join_86 : decode cX6_join 86 = .ok (.aload_n 0, 1) := by decide +kernel
theorem dX6_join_87 : decode cX6_join 87 = .ok (.getfield 21, 3) := by decide +kernel
theorem dX6_join_90 : decode cX6_join 90 = .ok (.iload_n 3, 1) := by decide +kernel
theorem dX6_join_91 : decode cX6_join 91 = .ok (.ifCond .eq 8, 3) := by decide +kernel
theorem dX6_join_94 : decode cX6_join 94 = .ok (.bipush 21, 2) := by decide +kernel
theorem dX6_join_96 : decode cX6_join 96 = .ok (.goto 5, 3) := by decide +kernel
theorem dX6_join_99 : decode cX6_join 99 = .ok (.bipush 20, 2) := by decide +kernel
theorem dX6_join_101 : decode cX6_join 101 = .ok (.iload 6, 2) := by decide +kernel
theorem dX6_join_103 : decode cX6_join 103 = .ok (.iload 7, 2) := by decide +kernel
theorem dX6_join_105 : decode cX6_join 105 = .ok (.invokevirtual 143, 3) := by decide +kernel
theorem dX6_join_108 : decode cX6_join 108 = .ok (.invokevirtual 131, 3) := by decide +kernel
theorem dX6_join_111 : decode cX6_join 111 = .ok (.ireturn, 1) := by decide +kernel
theorem dX6_removeWish_0 : decode cX6_removeWish 0 = .ok (.aload_n 0, 1) := by decide +kernel
theorem dX6_removeWish_1 : decode cX6_removeWish 1 = .ok (.getfield 59, 3) := by decide +kernel
theorem dX6_removeWish_4 : decode cX6_removeWish 4 = .ok (.iload_n 1, 1) := by decide +kernel
theorem dX6_removeWish_5 : decode cX6_removeWish 5 = .ok (.invokevirtual 135, 3) := by decide +kernel
theorem dX6_removeWish_8 : decode cX6_removeWish 8 = .ok (.ifnonnull 5, 3) := by decide +kernel
theorem dX6_removeWish_11 : decode cX6_removeWish 11 = .ok (.iconst (-1), 1) := by decide +kernel
theorem dX6_removeWish_12 : decode cX6_removeWish 12 = .ok (.ireturn, 1) := by decide +kernel
theorem dX6_removeWish_13 : decode cX6_removeWish 13 = .ok (.aload_n 0, 1) := by decide +kernel
theorem dX6_removeWish_14 : decode cX6_removeWish 14 = .ok (.getfield 62, 3) := by decide +kernel
theorem dX6_removeWish_17 : decode cX6_removeWish 17 = .ok (.astore_n 2, 1) := by decide +kernel
theorem dX6_removeWish_18 : decode cX6_removeWish 18 = .ok (.aload_n 2, 1) := by decide +kernel
theorem dX6_removeWish_19 : decode cX6_removeWish 19 = .ok (.aload_n 0, 1) := by decide +kernel
theorem dX6_removeWish_20 : decode cX6_removeWish 20 = .ok (.getfield 59, 3) := by decide +kernel
theorem dX6_removeWish_23 : decode cX6_removeWish 23 = .ok (.invokevirtual 73, 3) := by decide +kernel
theorem dX6_removeWish_26 : decode cX6_removeWish 26 = .ok (.aload_n 2, 1) := by decide +kernel
theorem dX6_removeWish_27 : decode cX6_removeWish 27 = .ok (.getfield 80, 3) := by decide +kernel
theorem dX6_removeWish_30 : decode cX6_removeWish 30 = .ok (.iload_n 1, 1) := by decide +kernel
theorem dX6_removeWish_31 : decode cX6_removeWish 31 = .ok (.aaload, 1) := by decide +kernel
theorem dX6_removeWish_32 : decode cX6_removeWish 32 = .ok (.iconst 0, 1) := by decide +kernel
theorem dX6_removeWish_33 : decode cX6_removeWish 33 = .ok (.putfield 84, 3) := by decide +kernel
theorem dX6_removeWish_36 : decode cX6_removeWish 36 = .ok (.aload_n 0, 1) := by decide +kernel
theorem dX6_removeWish_37 : decode cX6_removeWish 37 = .ok (.invokevirtual 110, 3) := by decide +kernel
theorem dX6_removeWish_40 : decode cX6_removeWish 40 = .ok (.aload_n 0, 1) := by decide +kernel
theorem dX6_removeWish_41 : decode cX6_removeWish 41 = .ok (.getfield 59, 3) := by decide +kernel
theorem dX6_removeWish_44 : decode cX6_removeWish 44 = .ok (.invokevirtual 147, 3) := by decide +kernel
theorem dX6_removeWish_47 : decode cX6_removeWish 47 = .ok (.ireturn, 1) := by decide +kernel
theorem dX6_type_0 : decode cX6_type 0 = .ok (.aload_n 0, 1) := by decide +kernel
theorem dX6_type_1 : decode cX6_type 1 = .ok (.getfield 37, 3) := by decide +kernel
theorem dX6_type_4 : decode cX6_type 4 = .ok (.iload_n 1, 1) := by decide +kernel
theorem dX6_type_5 : decode cX6_type 5 = .ok (.invokevirtual 150, 3) := by decide +kernel
theorem dX6_type_8 : decode cX6_type 8 = .ok (.ifCond .eq 13, 3) := by decide +kernel
theorem dX6_type_11 : decode cX6_type 11 = .ok (.aload_n 0, 1) := by decide +kernel
theorem dX6_type_12 : decode cX6_type 12 = .ok (.getfield 37, 3) := by decide +kernel
theorem dX6_type_15 : decode cX6_type 15 = .ok (.getfield 154, 3) := by decide +kernel
theorem dX6_type_18 : decode cX6_type 18 = .ok (.goto 5, 3) := by decide +kernel
theorem dX6_type_21 : decode cX6_type 21 = .ok (.bipush (-3), 2) := by decide +kernel
theorem dX6_type_23 : decode cX6_type 23 = .ok (.ireturn, 1) := by decide +kernel
theorem dX6_clearText_0 : decode cX6_clearText 0 = .ok (.aload_n 0, 1) := by decide +kernel
theorem dX6_clearText_1 : decode cX6_clearText 1 = .ok (.getfield 37, 3) := by decide +kernel
theorem dX6_clearText_4 : decode cX6_clearText 4 = .ok (.getfield 154, 3) := by decide +kernel
theorem dX6_clearText_7 : decode cX6_clearText 7 = .ok (.istore_n 1, 1) := by decide +kernel
theorem dX6_clearText_8 : decode cX6_clearText 8 = .ok (.aload_n 0, 1) := by decide +kernel
theorem dX6_clearText_9 : decode cX6_clearText 9 = .ok (.getfield 37, 3) := by decide +kernel
theorem dX6_clearText_12 : decode cX6_clearText 12 = .ok (.iconst 0, 1) := by decide +kernel
theorem dX6_clearText_13 : decode cX6_clearText 13 = .ok (.putfield 154, 3) := by decide +kernel
theorem dX6_clearText_16 : decode cX6_clearText 16 = .ok (.iload_n 1, 1) := by decide +kernel
theorem dX6_clearText_17 : decode cX6_clearText 17 = .ok (.ireturn, 1) := by decide +kernel
theorem dX6_undo_0 : decode cX6_undo 0 = .ok (.aload_n 0, 1) := by decide +kernel
theorem dX6_undo_1 : decode cX6_undo 1 = .ok (.getfield 157, 3) := by decide +kernel
theorem dX6_undo_4 : decode cX6_undo 4 = .ok (.ifCond .ne 6, 3) := by decide +kernel
theorem dX6_undo_7 : decode cX6_undo 7 = .ok (.bipush (-5), 2) := by decide +kernel
theorem dX6_undo_9 : decode cX6_undo 9 = .ok (.ireturn, 1) := by decide +kernel
theorem dX6_undo_10 : decode cX6_undo 10 = .ok (.aload_n 0, 1) := by decide +kernel
theorem dX6_undo_11 : decode cX6_undo 11 = .ok (.dup, 1) := by decide +kernel
theorem dX6_undo_12 : decode cX6_undo 12 = .ok (.getfield 157, 3) := by decide +kernel
theorem dX6_undo_15 : decode cX6_undo 15 = .ok (.iconst 1, 1) := by decide +kernel
theorem dX6_undo_16 : decode cX6_undo 16 = .ok (.isub, 1) := by decide +kernel
theorem dX6_undo_17 : decode cX6_undo 17 = .ok (.putfield 157, 3) := by decide +kernel
theorem dX6_undo_20 : decode cX6_undo 20 = .ok (.aload_n 0, 1) := by decide +kernel
theorem dX6_undo_21 : decode cX6_undo 21 = .ok (.getfield 50, 3) := by decide +kernel
theorem dX6_undo_24 : decode cX6_undo 24 = .ok (.aload_n 0, 1) := by decide +kernel
theorem dX6_undo_25 : decode cX6_undo 25 = .ok (.getfield 157, 3) := by decide +kernel
theorem dX6_undo_28 : decode cX6_undo 28 = .ok (.aaload, 1) := by decide +kernel
theorem dX6_undo_29 : decode cX6_undo 29 = .ok (.astore_n 1, 1) := by decide +kernel
theorem dX6_undo_30 : decode cX6_undo 30 = .ok (.aload_n 0, 1) := by decide +kernel
theorem dX6_undo_31 : decode cX6_undo 31 = .ok (.getfield 50, 3) := by decide +kernel
theorem dX6_undo_34 : decode cX6_undo 34 = .ok (.aload_n 0, 1) := by decide +kernel
theorem dX6_undo_35 : decode cX6_undo 35 = .ok (.getfield 157, 3) := by decide +kernel
theorem dX6_undo_38 : decode cX6_undo 38 = .ok (.aload_n 0, 1) := by decide +kernel
theorem dX6_undo_39 : decode cX6_undo 39 = .ok (.getfield 59, 3) := by decide +kernel
theorem dX6_undo_42 : decode cX6_undo 42 = .ok (.aastore, 1) := by decide +kernel
theorem dX6_undo_43 : decode cX6_undo 43 = .ok (.aload_n 0, 1) := by decide +kernel
theorem dX6_undo_44 : decode cX6_undo 44 = .ok (.aload_n 1, 1) := by decide +kernel
theorem dX6_undo_45 : decode cX6_undo 45 = .ok (.putfield 59, 3) := by decide +kernel
theorem dX6_undo_48 : decode cX6_undo 48 = .ok (.aload_n 0, 1) := by decide +kernel
theorem dX6_undo_49 : decode cX6_undo 49 = .ok (.getfield 157, 3) := by decide +kernel
theorem dX6_undo_52 : decode cX6_undo 52 = .ok (.ireturn, 1) := by decide +kernel
theorem dX6_keep_0 : decode cX6_keep 0 = .ok (.aload_n 0, 1) := by decide +kernel
theorem dX6_keep_1 : decode cX6_keep 1 = .ok (.getfield 55, 3) := by decide +kernel
theorem dX6_keep_4 : decode cX6_keep 4 = .ok (.aload_n 0, 1) := by decide +kernel
theorem dX6_keep_5 : decode cX6_keep 5 = .ok (.getfield 59, 3) := by decide +kernel
theorem dX6_keep_8 : decode cX6_keep 8 = .ok (.invokevirtual 73, 3) := by decide +kernel
theorem dX6_keep_11 : decode cX6_keep 11 = .ok (.aload_n 0, 1) := by decide +kernel
theorem dX6_keep_12 : decode cX6_keep 12 = .ok (.iconst 1, 1) := by decide +kernel
theorem dX6_keep_13 : decode cX6_keep 13 = .ok (.putfield 160, 3) := by decide +kernel
theorem dX6_keep_16 : decode cX6_keep 16 = .ok (.aload_n 0, 1) := by decide +kernel
theorem dX6_keep_17 : decode cX6_keep 17 = .ok (.getfield 59, 3) := by decide +kernel
theorem dX6_keep_20 : decode cX6_keep 20 = .ok (.getfield 69, 3) := by decide +kernel
theorem dX6_keep_23 : decode cX6_keep 23 = .ok (.ireturn, 1) := by decide +kernel
theorem dX6_restore_0 : decode cX6_restore 0 = .ok (.aload_n 0, 1) := by decide +kernel
theorem dX6_restore_1 : decode cX6_restore 1 = .ok (.getfield 160, 3) := by decide +kernel
theorem dX6_restore_4 : decode cX6_restore 4 = .ok (.ifCond .ne 6, 3) := by decide +kernel
theorem dX6_restore_7 : decode cX6_restore 7 = .ok (.bipush (-5), 2) := by decide +kernel
theorem dX6_restore_9 : decode cX6_restore 9 = .ok (.ireturn, 1) := by decide +kernel
theorem dX6_restore_10 : decode cX6_restore 10 = .ok (.aload_n 0, 1) := by decide +kernel
theorem dX6_restore_11 : decode cX6_restore 11 = .ok (.getfield 62, 3) := by decide +kernel
theorem dX6_restore_14 : decode cX6_restore 14 = .ok (.aload_n 0, 1) := by decide +kernel
theorem dX6_restore_15 : decode cX6_restore 15 = .ok (.getfield 55, 3) := by decide +kernel
theorem dX6_restore_18 : decode cX6_restore 18 = .ok (.invokevirtual 73, 3) := by decide +kernel
theorem dX6_restore_21 : decode cX6_restore 21 = .ok (.aload_n 0, 1) := by decide +kernel
theorem dX6_restore_22 : decode cX6_restore 22 = .ok (.invokevirtual 110, 3) := by decide +kernel
theorem dX6_restore_25 : decode cX6_restore 25 = .ok (.aload_n 0, 1) := by decide +kernel
theorem dX6_restore_26 : decode cX6_restore 26 = .ok (.getfield 59, 3) := by decide +kernel
theorem dX6_restore_29 : decode cX6_restore 29 = .ok (.getfield 69, 3) := by decide +kernel
theorem dX6_restore_32 : decode cX6_restore 32 = .ok (.ireturn, 1) := by decide +kernel
theorem dX6_wish_0 : decode cX6_wish 0 = .ok (.aload_n 0, 1) := by decide +kernel
theorem dX6_wish_1 : decode cX6_wish 1 = .ok (.getfield 59, 3) := by decide +kernel
theorem dX6_wish_4 : decode cX6_wish 4 = .ok (.iload_n 1, 1) := by decide +kernel
theorem dX6_wish_5 : decode cX6_wish 5 = .ok (.invokevirtual 135, 3) := by decide +kernel
theorem dX6_wish_8 : decode cX6_wish 8 = .ok (.astore_n 3, 1) := by decide +kernel
theorem dX6_wish_9 : decode cX6_wish 9 = .ok (.aload_n 3, 1) := by decide +kernel
theorem dX6_wish_10 : decode cX6_wish 10 = .ok (.ifnonnull 5, 3) := by decide +kernel
theorem dX6_wish_13 : decode cX6_wish 13 = .ok (.iconst (-1), 1) := by decide +kernel
theorem dX6_wish_14 : decode cX6_wish 14 = .ok (.ireturn, 1) := by decide +kernel
theorem dX6_wish_15 : decode cX6_wish 15 = .ok (.iload_n 2, 1) := by decide +kernel
theorem dX6_wish_16 : decode cX6_wish 16 = .ok (.tableswitch 100 0 8 #[52, 57, 62, 68, 74, 79, 84, 90, 95], 52) := by decide +kernel
theorem dX6_wish_68 : decode cX6_wish 68 = .ok (.aload_n 3, 1) := by decide +kernel
theorem dX6_wish_69 : decode cX6_wish 69 = .ok (.getfield 93, 3) := by decide +kernel
theorem dX6_wish_72 : decode cX6_wish 72 = .ok (.ireturn, 1) := by decide +kernel
theorem dX6_wish_73 : decode cX6_wish 73 = .ok (.aload_n 3, 1) := by decide +kernel
theorem dX6_wish_74 : decode cX6_wish 74 = .ok (.getfield 163, 3) := by decide +kernel
theorem dX6_wish_77 : decode cX6_wish 77 = .ok (.ireturn, 1) := by decide +kernel
theorem dX6_wish_78 : decode cX6_wish 78 = .ok (.aload_n 3, 1) := by decide +kernel
theorem dX6_wish_79 : decode cX6_wish 79 = .ok (.iconst 0, 1) := by decide +kernel
theorem dX6_wish_80 : decode cX6_wish 80 = .ok (.invokevirtual 166, 3) := by decide +kernel
theorem dX6_wish_83 : decode cX6_wish 83 = .ok (.ireturn, 1) := by decide +kernel
theorem dX6_wish_84 : decode cX6_wish 84 = .ok (.aload_n 3, 1) := by decide +kernel
theorem dX6_wish_85 : decode cX6_wish 85 = .ok (.iconst 1, 1) := by decide +kernel
theorem dX6_wish_86 : decode cX6_wish 86 = .ok (.invokevirtual 166, 3) := by decide +kernel
theorem dX6_wish_89 : decode cX6_wish 89 = .ok (.ireturn, 1) := by decide +kernel
theorem dX6_wish_90 : decode cX6_wish 90 = .ok (.aload_n 3, 1) := by decide +kernel
theorem dX6_wish_91 : decode cX6_wish 91 = .ok (.getfield 169, 3) := by decide +kernel
theorem dX6_wish_94 : decode cX6_wish 94 = .ok (.ireturn, 1) := by decide +kernel
theorem dX6_wish_95 : decode cX6_wish 95 = .ok (.aload_n 3, 1) := by decide +kernel
theorem dX6_wish_96 : decode cX6_wish 96 = .ok (.getfield 104, 3) := by decide +kernel
theorem dX6_wish_99 : decode cX6_wish 99 = .ok (.ireturn, 1) := by decide +kernel
theorem dX6_wish_100 : decode cX6_wish 100 = .ok (.aload_n 0, 1) := by decide +kernel
theorem dX6_wish_101 : decode cX6_wish 101 = .ok (.aload_n 3, 1) := by decide +kernel
theorem dX6_wish_102 : decode cX6_wish 102 = .ok (.invokevirtual 172, 3) := by decide +kernel
theorem dX6_wish_105 : decode cX6_wish 105 = .ok (.ireturn, 1) := by decide +kernel
theorem dX6_wish_106 : decode cX6_wish 106 = .ok (.aload_n 3, 1) := by decide +kernel
theorem dX6_wish_107 : decode cX6_wish 107 = .ok (.invokevirtual 175, 3) := by decide +kernel
theorem dX6_wish_110 : decode cX6_wish 110 = .ok (.ireturn, 1) := by decide +kernel
theorem dX6_wish_111 : decode cX6_wish 111 = .ok (.aload_n 3, 1) := by decide +kernel
theorem dX6_wish_112 : decode cX6_wish 112 = .ok (.getfield 178, 3) := by decide +kernel
theorem dX6_wish_115 : decode cX6_wish 115 = .ok (.ireturn, 1) := by decide +kernel
theorem dX6_wish_116 : decode cX6_wish 116 = .ok (.bipush (-2), 2) := by decide +kernel
theorem dX6_wish_118 : decode cX6_wish 118 = .ok (.ireturn, 1) := by decide +kernel
theorem dX6_letter_0 : decode cX6_letter 0 = .ok (.aload_n 0, 1) := by decide +kernel
theorem dX6_letter_1 : decode cX6_letter 1 = .ok (.getfield 59, 3) := by decide +kernel
theorem dX6_letter_4 : decode cX6_letter 4 = .ok (.iload_n 1, 1) := by decide +kernel
theorem dX6_letter_5 : decode cX6_letter 5 = .ok (.invokevirtual 135, 3) := by decide +kernel
theorem dX6_letter_8 : decode cX6_letter 8 = .ok (.astore 4, 2) := by decide +kernel
theorem dX6_letter_10 : decode cX6_letter 10 = .ok (.aload 4, 2) := by decide +kernel
theorem dX6_letter_12 : decode cX6_letter 12 = .ok (.ifnull 16, 3) := by decide +kernel
theorem dX6_letter_15 : decode cX6_letter 15 = .ok (.iload_n 2, 1) := by decide +kernel
theorem dX6_letter_16 : decode cX6_letter 16 = .ok (.ifCond .lt 12, 3) := by decide +kernel
theorem dX6_letter_19 : decode cX6_letter 19 = .ok (.iload_n 2, 1) := by decide +kernel
theorem dX6_letter_20 : decode cX6_letter 20 = .ok (.aload 4, 2) := by decide +kernel
theorem dX6_letter_22 : decode cX6_letter 22 = .ok (.getfield 163, 3) := by decide +kernel
theorem dX6_letter_25 : decode cX6_letter 25 = .ok (.if_icmp .lt 5, 3) := by decide +kernel
theorem dX6_letter_28 : decode cX6_letter 28 = .ok (.iconst (-1), 1) := by decide +kernel
theorem dX6_letter_29 : decode cX6_letter 29 = .ok (.ireturn, 1) := by decide +kernel
theorem dX6_letter_30 : decode cX6_letter 30 = .ok (.iload_n 3, 1) := by decide +kernel
theorem dX6_letter_31 : decode cX6_letter 31 = .ok (.ifCond .ge 6, 3) := by decide +kernel
theorem dX6_letter_34 : decode cX6_letter 34 = .ok (.bipush (-2), 2) := by decide +kernel
theorem dX6_letter_36 : decode cX6_letter 36 = .ok (.ireturn, 1) := by decide +kernel
theorem dX6_letter_37 : decode cX6_letter 37 = .ok (.aload_n 0, 1) := by decide +kernel
theorem dX6_letter_38 : decode cX6_letter 38 = .ok (.getfield 28, 3) := by decide +kernel
theorem dX6_letter_41 : decode cX6_letter 41 = .ok (.aload 4, 2) := by decide +kernel
theorem dX6_letter_43 : decode cX6_letter 43 = .ok (.iload_n 2, 1) := by decide +kernel
theorem dX6_letter_44 : decode cX6_letter 44 = .ok (.invokevirtual 181, 3) := by decide +kernel
theorem dX6_letter_47 : decode cX6_letter 47 = .ok (.istore 5, 2) := by decide +kernel
theorem dX6_letter_49 : decode cX6_letter 49 = .ok (.iload_n 3, 1) := by decide +kernel
theorem dX6_letter_50 : decode cX6_letter 50 = .ok (.iload 5, 2) := by decide +kernel
theorem dX6_letter_52 : decode cX6_letter 52 = .ok (.if_icmp .ge 15, 3) := by decide +kernel
theorem dX6_letter_55 : decode cX6_letter 55 = .ok (.aload_n 0, 1) := by decide +kernel
theorem dX6_letter_56 : decode cX6_letter 56 = .ok (.getfield 28, 3) := by decide +kernel
theorem dX6_letter_59 : decode cX6_letter 59 = .ok (.getfield 184, 3) := by decide +kernel
theorem dX6_letter_62 : decode cX6_letter 62 = .ok (.iload_n 3, 1) := by decide +kernel
theorem dX6_letter_63 : decode cX6_letter 63 = .ok (.caload, 1) := by decide +kernel
theorem dX6_letter_64 : decode cX6_letter 64 = .ok (.goto 5, 3) := by decide +kernel
theorem dX6_letter_67 : decode cX6_letter 67 = .ok (.bipush (-5), 2) := by decide +kernel
theorem dX6_letter_69 : decode cX6_letter 69 = .ok (.ireturn, 1) := by decide +kernel
theorem dX6_part_0 : decode cX6_part 0 = .ok (.aload_n 0, 1) := by decide +kernel
theorem dX6_part_1 : decode cX6_part 1 = .ok (.getfield 59, 3) := by decide +kernel
theorem dX6_part_4 : decode cX6_part 4 = .ok (.iload_n 1, 1) := by decide +kernel
theorem dX6_part_5 : decode cX6_part 5 = .ok (.invokevirtual 135, 3) := by decide +kernel
theorem dX6_part_8 : decode cX6_part 8 = .ok (.astore 4, 2) := by decide +kernel
theorem dX6_part_10 : decode cX6_part 10 = .ok (.aload 4, 2) := by decide +kernel
theorem dX6_part_12 : decode cX6_part 12 = .ok (.ifnull 16, 3) := by decide +kernel
theorem dX6_part_15 : decode cX6_part 15 = .ok (.iload_n 2, 1) := by decide +kernel
theorem dX6_part_16 : decode cX6_part 16 = .ok (.ifCond .lt 12, 3) := by decide +kernel
theorem dX6_part_19 : decode cX6_part 19 = .ok (.iload_n 2, 1) := by decide +kernel
theorem dX6_part_20 : decode cX6_part 20 = .ok (.aload 4, 2) := by decide +kernel
theorem dX6_part_22 : decode cX6_part 22 = .ok (.getfield 163, 3) := by decide +kernel
theorem dX6_part_25 : decode cX6_part 25 = .ok (.if_icmp .lt 5, 3) := by decide +kernel
theorem dX6_part_28 : decode cX6_part 28 = .ok (.iconst (-1), 1) := by decide +kernel
theorem dX6_part_29 : decode cX6_part 29 = .ok (.ireturn, 1) := by decide +kernel
theorem dX6_part_30 : decode cX6_part 30 = .ok (.iload_n 3, 1) := by decide +kernel
theorem dX6_part_31 : decode cX6_part 31 = .ok (.tableswitch 88 0 3 #[29, 37, 48, 64], 29) := by decide +kernel
theorem dX6_part_60 : decode cX6_part 60 = .ok (.aload 4, 2) := by decide +kernel
theorem dX6_part_62 : decode cX6_part 62 = .ok (.getfield 188, 3) := by decide +kernel
theorem dX6_part_65 : decode cX6_part 65 = .ok (.iload_n 2, 1) := by decide +kernel
theorem dX6_part_66 : decode cX6_part 66 = .ok (.iaload, 1) := by decide +kernel
theorem dX6_part_67 : decode cX6_part 67 = .ok (.ireturn, 1) := by decide +kernel
theorem dX6_part_68 : decode cX6_part 68 = .ok (.aload_n 0, 1) := by decide +kernel
theorem dX6_part_69 : decode cX6_part 69 = .ok (.getfield 28, 3) := by decide +kernel
theorem dX6_part_72 : decode cX6_part 72 = .ok (.aload 4, 2) := by decide +kernel
theorem dX6_part_74 : decode cX6_part 74 = .ok (.iload_n 2, 1) := by decide +kernel
theorem dX6_part_75 : decode cX6_part 75 = .ok (.invokevirtual 181, 3) := by decide +kernel
theorem dX6_part_78 : decode cX6_part 78 = .ok (.ireturn, 1) := by decide +kernel
theorem dX6_part_79 : decode cX6_part 79 = .ok (.aload_n 0, 1) := by decide +kernel
theorem dX6_part_80 : decode cX6_part 80 = .ok (.getfield 12, 3) := by decide +kernel
theorem dX6_part_83 : decode cX6_part 83 = .ok (.getfield 191, 3) := by decide +kernel
theorem dX6_part_86 : decode cX6_part 86 = .ok (.aload_n 0, 1) := by decide +kernel
theorem dX6_part_87 : decode cX6_part 87 = .ok (.aload 4, 2) := by decide +kernel
theorem dX6_part_89 : decode cX6_part 89 = .ok (.iload_n 2, 1) := by decide +kernel
theorem dX6_part_90 : decode cX6_part 90 = .ok (.invokevirtual 194, 3) := by decide +kernel
theorem dX6_part_93 : decode cX6_part 93 = .ok (.iaload, 1) := by decide +kernel
theorem dX6_part_94 : decode cX6_part 94 = .ok (.ireturn, 1) := by decide +kernel
theorem dX6_part_95 : decode cX6_part 95 = .ok (.aload_n 0, 1) := by decide +kernel
theorem dX6_part_96 : decode cX6_part 96 = .ok (.getfield 12, 3) := by decide +kernel
theorem dX6_part_99 : decode cX6_part 99 = .ok (.getfield 197, 3) := by decide +kernel
theorem dX6_part_102 : decode cX6_part 102 = .ok (.aload_n 0, 1) := by decide +kernel
theorem dX6_part_103 : decode cX6_part 103 = .ok (.aload 4, 2) := by decide +kernel
theorem dX6_part_105 : decode cX6_part 105 = .ok (.iload_n 2, 1) := by decide +kernel
theorem dX6_part_106 : decode cX6_part 106 = .ok (.invokevirtual 194, 3) := by decide +kernel
theorem dX6_part_109 : decode cX6_part 109 = .ok (.baload, 1) := by decide +kernel
theorem dX6_part_110 : decode cX6_part 110 = .ok (.ifCond .eq 7, 3) := by decide +kernel
theorem dX6_part_113 : decode cX6_part 113 = .ok (.iconst 1, 1) := by decide +kernel
theorem dX6_part_114 : decode cX6_part 114 = .ok (.goto 4, 3) := by decide +kernel
theorem dX6_part_117 : decode cX6_part 117 = .ok (.iconst 0, 1) := by decide +kernel
theorem dX6_part_118 : decode cX6_part 118 = .ok (.ireturn, 1) := by decide +kernel
theorem dX6_part_119 : decode cX6_part 119 = .ok (.bipush (-2), 2) := by decide +kernel
theorem dX6_part_121 : decode cX6_part 121 = .ok (.ireturn, 1) := by decide +kernel
theorem dX6_would_0 : decode cX6_would 0 = .ok (.aload_n 0, 1) := by decide +kernel
theorem dX6_would_1 : decode cX6_would 1 = .ok (.getfield 59, 3) := by decide +kernel
theorem dX6_would_4 : decode cX6_would 4 = .ok (.iload_n 1, 1) := by decide +kernel
theorem dX6_would_5 : decode cX6_would 5 = .ok (.invokevirtual 135, 3) := by decide +kernel
theorem dX6_would_8 : decode cX6_would 8 = .ok (.astore_n 3, 1) := by decide +kernel
theorem dX6_would_9 : decode cX6_would 9 = .ok (.aload_n 3, 1) := by decide +kernel
theorem dX6_would_10 : decode cX6_would 10 = .ok (.ifnonnull 5, 3) := by decide +kernel
theorem dX6_would_13 : decode cX6_would 13 = .ok (.iconst (-1), 1) := by decide +kernel
theorem dX6_would_14 : decode cX6_would 14 = .ok (.ireturn, 1) := by decide +kernel
theorem dX6_would_15 : decode cX6_would 15 = .ok (.iload_n 2, 1) := by decide +kernel
theorem dX6_would_16 : decode cX6_would 16 = .ok (.ifCond .lt 9, 3) := by decide +kernel
theorem dX6_would_19 : decode cX6_would 19 = .ok (.iload_n 2, 1) := by decide +kernel
theorem dX6_would_20 : decode cX6_would 20 = .ok (.bipush 64, 2) := by decide +kernel
theorem dX6_would_22 : decode cX6_would 22 = .ok (.if_icmp .lt 6, 3) := by decide +kernel
theorem dX6_would_25 : decode cX6_would 25 = .ok (.bipush (-2), 2) := by decide +kernel
theorem dX6_would_27 : decode cX6_would 27 = .ok (.ireturn, 1) := by decide +kernel
theorem dX6_would_28 : decode cX6_would 28 = .ok (.aload_n 0, 1) := by decide +kernel
theorem dX6_would_29 : decode cX6_would 29 = .ok (.getfield 59, 3) := by decide +kernel
theorem dX6_would_32 : decode cX6_would 32 = .ok (.getfield 65, 3) := by decide +kernel
theorem dX6_would_35 : decode cX6_would 35 = .ok (.ifCond .eq 6, 3) := by decide +kernel
theorem dX6_would_38 : decode cX6_would 38 = .ok (.bipush (-4), 2) := by decide +kernel
theorem dX6_would_40 : decode cX6_would 40 = .ok (.ireturn, 1) := by decide +kernel
theorem dX6_would_41 : decode cX6_would 41 = .ok (.aload_n 0, 1) := by decide +kernel
theorem dX6_would_42 : decode cX6_would 42 = .ok (.aload_n 3, 1) := by decide +kernel
theorem dX6_would_43 : decode cX6_would 43 = .ok (.iload_n 2, 1) := by decide +kernel
theorem dX6_would_44 : decode cX6_would 44 = .ok (.invokevirtual 201, 3) := by decide +kernel
theorem dX6_would_47 : decode cX6_would 47 = .ok (.ireturn, 1) := by decide +kernel
theorem dX6_bears_0 : decode cX6_bears 0 = .ok (.aload_n 0, 1) := by decide +kernel
theorem dX6_bears_1 : decode cX6_bears 1 = .ok (.getfield 59, 3) := by decide +kernel
theorem dX6_bears_4 : decode cX6_bears 4 = .ok (.iload_n 1, 1) := by decide +kernel
theorem dX6_bears_5 : decode cX6_bears 5 = .ok (.invokevirtual 135, 3) := by decide +kernel
theorem dX6_bears_8 : decode cX6_bears 8 = .ok (.astore_n 3, 1) := by decide +kernel
theorem dX6_bears_9 : decode cX6_bears 9 = .ok (.aload_n 3, 1) := by decide +kernel
theorem dX6_bears_10 : decode cX6_bears 10 = .ok (.ifnonnull 5, 3) := by decide +kernel
theorem dX6_bears_13 : decode cX6_bears 13 = .ok (.iconst (-1), 1) := by decide +kernel
theorem dX6_bears_14 : decode cX6_bears 14 = .ok (.ireturn, 1) := by decide +kernel
theorem dX6_bears_15 : decode cX6_bears 15 = .ok (.iload_n 2, 1) := by decide +kernel
theorem dX6_bears_16 : decode cX6_bears 16 = .ok (.ifCond .lt 8, 3) := by decide +kernel
theorem dX6_bears_19 : decode cX6_bears 19 = .ok (.iload_n 2, 1) := by decide +kernel
theorem dX6_bears_20 : decode cX6_bears 20 = .ok (.iconst 3, 1) := by decide +kernel
theorem dX6_bears_21 : decode cX6_bears 21 = .ok (.if_icmp .le 6, 3) := by decide +kernel
theorem dX6_bears_24 : decode cX6_bears 24 = .ok (.bipush (-2), 2) := by decide +kernel
theorem dX6_bears_26 : decode cX6_bears 26 = .ok (.ireturn, 1) := by decide +kernel
theorem dX6_bears_27 : decode cX6_bears 27 = .ok (.aload_n 0, 1) := by decide +kernel
theorem dX6_bears_28 : decode cX6_bears 28 = .ok (.getfield 59, 3) := by decide +kernel
theorem dX6_bears_31 : decode cX6_bears 31 = .ok (.getfield 65, 3) := by decide +kernel
theorem dX6_bears_34 : decode cX6_bears 34 = .ok (.ifCond .eq 6, 3) := by decide +kernel
theorem dX6_bears_37 : decode cX6_bears 37 = .ok (.bipush (-4), 2) := by decide +kernel
theorem dX6_bears_39 : decode cX6_bears 39 = .ok (.ireturn, 1) := by decide +kernel
theorem dX6_bears_40 : decode cX6_bears 40 = .ok (.aload_n 0, 1) := by decide +kernel
theorem dX6_bears_41 : decode cX6_bears 41 = .ok (.aload_n 3, 1) := by decide +kernel
theorem dX6_bears_42 : decode cX6_bears 42 = .ok (.invokevirtual 204, 3) := by decide +kernel
theorem dX6_bears_45 : decode cX6_bears 45 = .ok (.iconst 0, 1) := by decide +kernel
theorem dX6_bears_46 : decode cX6_bears 46 = .ok (.istore 4, 2) := by decide +kernel
theorem dX6_bears_48 : decode cX6_bears 48 = .ok (.iconst 0, 1) := by decide +kernel
theorem dX6_bears_49 : decode cX6_bears 49 = .ok (.istore 5, 2) := by decide +kernel
theorem dX6_bears_51 : decode cX6_bears 51 = .ok (.iload 5, 2) := by decide +kernel
theorem dX6_bears_53 : decode cX6_bears 53 = .ok (.bipush 64, 2) := by decide +kernel
theorem dX6_bears_55 : decode cX6_bears 55 = .ok (.if_icmp .ge 76, 3) := by decide +kernel
theorem dX6_bears_58 : decode cX6_bears 58 = .ok (.iload_n 2, 1) := by decide +kernel
theorem dX6_bears_59 : decode cX6_bears 59 = .ok (.iconst 2, 1) := by decide +kernel
theorem dX6_bears_60 : decode cX6_bears 60 = .ok (.if_icmp .ge 21, 3) := by decide +kernel
theorem dX6_bears_63 : decode cX6_bears 63 = .ok (.aload_n 0, 1) := by decide +kernel
theorem dX6_bears_64 : decode cX6_bears 64 = .ok (.getfield 41, 3) := by decide +kernel
theorem dX6_bears_67 : decode cX6_bears 67 = .ok (.iload 5, 2) := by decide +kernel
theorem dX6_bears_69 : decode cX6_bears 69 = .ok (.iaload, 1) := by decide +kernel
theorem dX6_bears_70 : decode cX6_bears 70 = .ok (.ifCond .eq 7, 3) := by decide +kernel
theorem dX6_bears_73 : decode cX6_bears 73 = .ok (.iconst 1, 1) := by decide +kernel
theorem dX6_bears_74 : decode cX6_bears 74 = .ok (.goto 23, 3) := by decide +kernel
theorem dX6_bears_77 : decode cX6_bears 77 = .ok (.iconst 0, 1) := by decide +kernel
theorem dX6_bears_78 : decode cX6_bears 78 = .ok (.goto 19, 3) := by decide +kernel
theorem dX6_bears_81 : decode cX6_bears 81 = .ok (.aload_n 0, 1) := by decide +kernel
theorem dX6_bears_82 : decode cX6_bears 82 = .ok (.getfield 41, 3) := by decide +kernel
theorem dX6_bears_85 : decode cX6_bears 85 = .ok (.iload 5, 2) := by decide +kernel
theorem dX6_bears_87 : decode cX6_bears 87 = .ok (.iaload, 1) := by decide +kernel
theorem dX6_bears_88 : decode cX6_bears 88 = .ok (.iconst 1, 1) := by decide +kernel
theorem dX6_bears_89 : decode cX6_bears 89 = .ok (.if_icmp .ne 7, 3) := by decide +kernel
theorem dX6_bears_92 : decode cX6_bears 92 = .ok (.iconst 1, 1) := by decide +kernel
theorem dX6_bears_93 : decode cX6_bears 93 = .ok (.goto 4, 3) := by decide +kernel
theorem dX6_bears_96 : decode cX6_bears 96 = .ok (.iconst 0, 1) := by decide +kernel
theorem dX6_bears_97 : decode cX6_bears 97 = .ok (.istore 6, 2) := by decide +kernel
theorem dX6_bears_99 : decode cX6_bears 99 = .ok (.iload 6, 2) := by decide +kernel
theorem dX6_bears_101 : decode cX6_bears 101 = .ok (.ifCond .eq 16, 3) := by decide +kernel
theorem dX6_bears_104 : decode cX6_bears 104 = .ok (.iload_n 2, 1) := by decide +kernel
theorem dX6_bears_105 : decode cX6_bears 105 = .ok (.iconst 1, 1) := by decide +kernel
theorem dX6_bears_106 : decode cX6_bears 106 = .ok (.if_icmp .eq 8, 3) := by decide +kernel
theorem dX6_bears_109 : decode cX6_bears 109 = .ok (.iload_n 2, 1) := by decide +kernel
theorem dX6_bears_110 : decode cX6_bears 110 = .ok (.iconst 3, 1) := by decide +kernel
theorem dX6_bears_111 : decode cX6_bears 111 = .ok (.if_icmp .ne 6, 3) := by decide +kernel
theorem dX6_bears_114 : decode cX6_bears 114 = .ok (.iload 5, 2) := by decide +kernel
theorem dX6_bears_116 : decode cX6_bears 116 = .ok (.ireturn, 1) := by decide +kernel
theorem dX6_bears_117 : decode cX6_bears 117 = .ok (.iload 6, 2) := by decide +kernel
theorem dX6_bears_119 : decode cX6_bears 119 = .ok (.ifCond .eq 6, 3) := by decide +kernel
theorem dX6_bears_122 : decode cX6_bears 122 = .ok (.iinc 4 1, 3) := by decide +kernel
theorem dX6_bears_125 : decode cX6_bears 125 = .ok (.iinc 5 1, 3) := by decide +kernel
theorem dX6_bears_128 : decode cX6_bears 128 = .ok (.goto (-77), 3) := by decide +kernel
theorem dX6_bears_131 : decode cX6_bears 131 = .ok (.iload_n 2, 1) := by decide +kernel
theorem dX6_bears_132 : decode cX6_bears 132 = .ok (.iconst 1, 1) := by decide +kernel
theorem dX6_bears_133 : decode cX6_bears 133 = .ok (.if_icmp .eq 8, 3) := by decide +kernel
theorem dX6_bears_136 : decode cX6_bears 136 = .ok (.iload_n 2, 1) := by decide +kernel
theorem dX6_bears_137 : decode cX6_bears 137 = .ok (.iconst 3, 1) := by decide +kernel
theorem dX6_bears_138 : decode cX6_bears 138 = .ok (.if_icmp .ne 8, 3) := by decide +kernel
theorem dX6_bears_141 : decode cX6_bears 141 = .ok (.bipush (-5), 2) := by decide +kernel
theorem dX6_bears_143 : decode cX6_bears 143 = .ok (.goto 5, 3) := by decide +kernel
theorem dX6_bears_146 : decode cX6_bears 146 = .ok (.iload 4, 2) := by decide +kernel
theorem dX6_bears_148 : decode cX6_bears 148 = .ok (.ireturn, 1) := by decide +kernel
theorem dX6_open_0 : decode cX6_open 0 = .ok (.iload_n 1, 1) := by decide +kernel
theorem dX6_open_1 : decode cX6_open 1 = .ok (.ifCond .ge 6, 3) := by decide +kernel
theorem dX6_open_4 : decode cX6_open 4 = .ok (.bipush (-2), 2) := by decide +kernel
theorem dX6_open_6 : decode cX6_open 6 = .ok (.ireturn, 1) := by decide +kernel
theorem dX6_open_7 : decode cX6_open 7 = .ok (.iconst 0, 1) := by decide +kernel
theorem dX6_open_8 : decode cX6_open 8 = .ok (.istore_n 2, 1) := by decide +kernel
theorem dX6_open_9 : decode cX6_open 9 = .ok (.iload_n 2, 1) := by decide +kernel
theorem dX6_open_10 : decode cX6_open 10 = .ok (.aload_n 0, 1) := by decide +kernel
theorem dX6_open_11 : decode cX6_open 11 = .ok (.getfield 59, 3) := by decide +kernel
theorem dX6_open_14 : decode cX6_open 14 = .ok (.getfield 77, 3) := by decide +kernel
theorem dX6_open_17 : decode cX6_open 17 = .ok (.if_icmp .ge 34, 3) := by decide +kernel
theorem dX6_open_20 : decode cX6_open 20 = .ok (.aload_n 0, 1) := by decide +kernel
theorem dX6_open_21 : decode cX6_open 21 = .ok (.getfield 59, 3) := by decide +kernel
theorem dX6_open_24 : decode cX6_open 24 = .ok (.iload_n 2, 1) := by decide +kernel
theorem dX6_open_25 : decode cX6_open 25 = .ok (.invokevirtual 207, 3) := by decide +kernel
theorem dX6_open_28 : decode cX6_open 28 = .ok (.ifCond .eq 17, 3) := by decide +kernel
theorem dX6_open_31 : decode cX6_open 31 = .ok (.aload_n 0, 1) := by decide +kernel
theorem dX6_open_32 : decode cX6_open 32 = .ok (.getfield 59, 3) := by decide +kernel
theorem dX6_open_35 : decode cX6_open 35 = .ok (.iload_n 2, 1) := by decide +kernel
theorem dX6_open_36 : decode cX6_open 36 = .ok (.invokevirtual 210, 3) := by decide +kernel
theorem dX6_open_39 : decode cX6_open 39 = .ok (.iload_n 1, 1) := by decide +kernel
theorem dX6_open_40 : decode cX6_open 40 = .ok (.if_icmp .ne 5, 3) := by decide +kernel
theorem dX6_open_43 : decode cX6_open 43 = .ok (.iload_n 2, 1) := by decide +kernel
theorem dX6_open_44 : decode cX6_open 44 = .ok (.ireturn, 1) := by decide +kernel
theorem dX6_open_45 : decode cX6_open 45 = .ok (.iinc 2 1, 3) := by decide +kernel
theorem dX6_open_48 : decode cX6_open 48 = .ok (.goto (-39), 3) := by decide +kernel
theorem dX6_open_51 : decode cX6_open 51 = .ok (.bipush (-5), 2) := by decide +kernel
theorem dX6_open_53 : decode cX6_open 53 = .ok (.ireturn, 1) := by decide +kernel
theorem dX6_at_0 : decode cX6_at 0 = .ok (.iload_n 1, 1) := by decide +kernel
theorem dX6_at_1 : decode cX6_at 1 = .ok (.ifCond .ge 6, 3) := by decide +kernel
theorem dX6_at_4 : decode cX6_at 4 = .ok (.bipush (-2), 2) := by decide +kernel
theorem dX6_at_6 : decode cX6_at 6 = .ok (.ireturn, 1) := by decide +kernel
theorem dX6_at_7 : decode cX6_at 7 = .ok (.iload_n 1, 1) := by decide +kernel
theorem dX6_at_8 : decode cX6_at 8 = .ok (.aload_n 0, 1) := by decide +kernel
theorem dX6_at_9 : decode cX6_at 9 = .ok (.getfield 59, 3) := by decide +kernel
theorem dX6_at_12 : decode cX6_at 12 = .ok (.getfield 69, 3) := by decide +kernel
theorem dX6_at_15 : decode cX6_at 15 = .ok (.if_icmp .ge 15, 3) := by decide +kernel
theorem dX6_at_18 : decode cX6_at 18 = .ok (.aload_n 0, 1) := by decide +kernel
theorem dX6_at_19 : decode cX6_at 19 = .ok (.getfield 59, 3) := by decide +kernel
theorem dX6_at_22 : decode cX6_at 22 = .ok (.getfield 107, 3) := by decide +kernel
theorem dX6_at_25 : decode cX6_at 25 = .ok (.iload_n 1, 1) := by decide +kernel
theorem dX6_at_26 : decode cX6_at 26 = .ok (.iaload, 1) := by decide +kernel
theorem dX6_at_27 : decode cX6_at 27 = .ok (.goto 5, 3) := by decide +kernel
theorem dX6_at_30 : decode cX6_at 30 = .ok (.bipush (-5), 2) := by decide +kernel
theorem dX6_at_32 : decode cX6_at 32 = .ok (.ireturn, 1) := by decide +kernel
theorem dX6_count_0 : decode cX6_count 0 = .ok (.iload_n 1, 1) := by decide +kernel
theorem dX6_count_1 : decode cX6_count 1 = .ok (.tableswitch 131 0 8 #[51, 59, 75, 83, 91, 100, 109, 118, 123], 51) := by decide +kernel
theorem dX6_count_52 : decode cX6_count 52 = .ok (.aload_n 0, 1) := by decide +kernel
theorem dX6_count_53 : decode cX6_count 53 = .ok (.getfield 59, 3) := by decide +kernel
theorem dX6_count_56 : decode cX6_count 56 = .ok (.getfield 69, 3) := by decide +kernel
theorem dX6_count_59 : decode cX6_count 59 = .ok (.ireturn, 1) := by decide +kernel
theorem dX6_count_60 : decode cX6_count 60 = .ok (.aload_n 0, 1) := by decide +kernel
theorem dX6_count_61 : decode cX6_count 61 = .ok (.getfield 59, 3) := by decide +kernel
theorem dX6_count_64 : decode cX6_count 64 = .ok (.getfield 65, 3) := by decide +kernel
theorem dX6_count_67 : decode cX6_count 67 = .ok (.ifCond .eq 7, 3) := by decide +kernel
theorem dX6_count_70 : decode cX6_count 70 = .ok (.iconst 1, 1) := by decide +kernel
theorem dX6_count_71 : decode cX6_count 71 = .ok (.goto 4, 3) := by decide +kernel
theorem dX6_count_74 : decode cX6_count 74 = .ok (.iconst 0, 1) := by decide +kernel
theorem dX6_count_75 : decode cX6_count 75 = .ok (.ireturn, 1) := by decide +kernel
theorem dX6_count_76 : decode cX6_count 76 = .ok (.aload_n 0, 1) := by decide +kernel
theorem dX6_count_77 : decode cX6_count 77 = .ok (.getfield 59, 3) := by decide +kernel
theorem dX6_count_80 : decode cX6_count 80 = .ok (.invokevirtual 147, 3) := by decide +kernel
theorem dX6_count_83 : decode cX6_count 83 = .ok (.ireturn, 1) := by decide +kernel
theorem dX6_count_84 : decode cX6_count 84 = .ok (.aload_n 0, 1) := by decide +kernel
theorem dX6_count_85 : decode cX6_count 85 = .ok (.getfield 59, 3) := by decide +kernel
theorem dX6_count_88 : decode cX6_count 88 = .ok (.getfield 77, 3) := by decide +kernel
theorem dX6_count_91 : decode cX6_count 91 = .ok (.ireturn, 1) := by decide +kernel
theorem dX6_count_92 : decode cX6_count 92 = .ok (.aload_n 0, 1) := by decide +kernel
theorem dX6_count_93 : decode cX6_count 93 = .ok (.getfield 59, 3) := by decide +kernel
theorem dX6_count_96 : decode cX6_count 96 = .ok (.iconst 2, 1) := by decide +kernel
theorem dX6_count_97 : decode cX6_count 97 = .ok (.invokevirtual 213, 3) := by decide +kernel
theorem dX6_count_100 : decode cX6_count 100 = .ok (.ireturn, 1) := by decide +kernel
theorem dX6_count_101 : decode cX6_count 101 = .ok (.aload_n 0, 1) := by decide +kernel
theorem dX6_count_102 : decode cX6_count 102 = .ok (.getfield 59, 3) := by decide +kernel
theorem dX6_count_105 : decode cX6_count 105 = .ok (.iconst 0, 1) := by decide +kernel
theorem dX6_count_106 : decode cX6_count 106 = .ok (.invokevirtual 213, 3) := by decide +kernel
theorem dX6_count_109 : decode cX6_count 109 = .ok (.ireturn, 1) := by decide +kernel
theorem dX6_count_110 : decode cX6_count 110 = .ok (.aload_n 0, 1) := by decide +kernel
theorem dX6_count_111 : decode cX6_count 111 = .ok (.getfield 59, 3) := by decide +kernel
theorem dX6_count_114 : decode cX6_count 114 = .ok (.iconst 1, 1) := by decide +kernel
theorem dX6_count_115 : decode cX6_count 115 = .ok (.invokevirtual 213, 3) := by decide +kernel
theorem dX6_count_118 : decode cX6_count 118 = .ok (.ireturn, 1) := by decide +kernel
theorem dX6_count_119 : decode cX6_count 119 = .ok (.aload_n 0, 1) := by decide +kernel
theorem dX6_count_120 : decode cX6_count 120 = .ok (.getfield 157, 3) := by decide +kernel
theorem dX6_count_123 : decode cX6_count 123 = .ok (.ireturn, 1) := by decide +kernel
theorem dX6_count_124 : decode cX6_count 124 = .ok (.aload_n 0, 1) := by decide +kernel
theorem dX6_count_125 : decode cX6_count 125 = .ok (.getfield 37, 3) := by decide +kernel
theorem dX6_count_128 : decode cX6_count 128 = .ok (.getfield 154, 3) := by decide +kernel
theorem dX6_count_131 : decode cX6_count 131 = .ok (.ireturn, 1) := by decide +kernel
theorem dX6_count_132 : decode cX6_count 132 = .ok (.bipush (-2), 2) := by decide +kernel
theorem dX6_count_134 : decode cX6_count 134 = .ok (.ireturn, 1) := by decide +kernel
theorem dX6_recordAndGoOn_0 : decode cX6_recordAndGoOn 0 = .ok (.aload_n 0, 1) := by decide +kernel
theorem dX6_recordAndGoOn_1 : decode cX6_recordAndGoOn 1 = .ok (.getfield 157, 3) := by decide +kernel
theorem dX6_recordAndGoOn_4 : decode cX6_recordAndGoOn 4 = .ok (.iconst 4, 1) := by decide +kernel
theorem dX6_recordAndGoOn_5 : decode cX6_recordAndGoOn 5 = .ok (.if_icmp .ge 39, 3) := by decide +kernel
theorem dX6_recordAndGoOn_8 : decode cX6_recordAndGoOn 8 = .ok (.aload_n 0, 1) := by decide +kernel
theorem dX6_recordAndGoOn_9 : decode cX6_recordAndGoOn 9 = .ok (.getfield 50, 3) := by decide +kernel
theorem dX6_recordAndGoOn_12 : decode cX6_recordAndGoOn 12 = .ok (.aload_n 0, 1) := by decide +kernel
theorem dX6_recordAndGoOn_13 : decode cX6_recordAndGoOn 13 = .ok (.getfield 157, 3) := by decide +kernel
theorem dX6_recordAndGoOn_16 : decode cX6_recordAndGoOn 16 = .ok (.aaload, 1) := by decide +kernel
theorem dX6_recordAndGoOn_17 : decode cX6_recordAndGoOn 17 = .ok (.astore_n 1, 1) := by decide +kernel
theorem dX6_recordAndGoOn_18 : decode cX6_recordAndGoOn 18 = .ok (.aload_n 0, 1) := by decide +kernel
theorem dX6_recordAndGoOn_19 : decode cX6_recordAndGoOn 19 = .ok (.getfield 50, 3) := by decide +kernel
theorem dX6_recordAndGoOn_22 : decode cX6_recordAndGoOn 22 = .ok (.aload_n 0, 1) := by decide +kernel
theorem dX6_recordAndGoOn_23 : decode cX6_recordAndGoOn 23 = .ok (.getfield 157, 3) := by decide +kernel
theorem dX6_recordAndGoOn_26 : decode cX6_recordAndGoOn 26 = .ok (.aload_n 0, 1) := by decide +kernel
theorem dX6_recordAndGoOn_27 : decode cX6_recordAndGoOn 27 = .ok (.getfield 59, 3) := by decide +kernel
theorem dX6_recordAndGoOn_30 : decode cX6_recordAndGoOn 30 = .ok (.aastore, 1) := by decide +kernel
theorem dX6_recordAndGoOn_31 : decode cX6_recordAndGoOn 31 = .ok (.aload_n 0, 1) := by decide +kernel
theorem dX6_recordAndGoOn_32 : decode cX6_recordAndGoOn 32 = .ok (.dup, 1) := by decide +kernel
theorem dX6_recordAndGoOn_33 : decode cX6_recordAndGoOn 33 = .ok (.getfield 157, 3) := by decide +kernel
theorem dX6_recordAndGoOn_36 : decode cX6_recordAndGoOn 36 = .ok (.iconst 1, 1) := by decide +kernel
theorem dX6_recordAndGoOn_37 : decode cX6_recordAndGoOn 37 = .ok (.iadd, 1) := by decide +kernel
theorem dX6_recordAndGoOn_38 : decode cX6_recordAndGoOn 38 = .ok (.putfield 157, 3) := by decide +kernel
theorem dX6_recordAndGoOn_41 : decode cX6_recordAndGoOn 41 = .ok (.goto 47, 3) := by decide +kernel
theorem dX6_recordAndGoOn_44 : decode cX6_recordAndGoOn 44 = .ok (.aload_n 0, 1) := by decide +kernel
theorem dX6_recordAndGoOn_45 : decode cX6_recordAndGoOn 45 = .ok (.getfield 50, 3) := by decide +kernel
theorem dX6_recordAndGoOn_48 : decode cX6_recordAndGoOn 48 = .ok (.iconst 0, 1) := by decide +kernel
theorem dX6_recordAndGoOn_49 : decode cX6_recordAndGoOn 49 = .ok (.aaload, 1) := by decide +kernel
theorem dX6_recordAndGoOn_50 : decode cX6_recordAndGoOn 50 = .ok (.astore_n 1, 1) := by decide +kernel
theorem dX6_recordAndGoOn_51 : decode cX6_recordAndGoOn 51 = .ok (.iconst 1, 1) := by decide +kernel
theorem dX6_recordAndGoOn_52 : decode cX6_recordAndGoOn 52 = .ok (.istore_n 2, 1) := by decide +kernel
theorem dX6_recordAndGoOn_53 : decode cX6_recordAndGoOn 53 = .ok (.iload_n 2, 1) := by decide +kernel
theorem dX6_recordAndGoOn_54 : decode cX6_recordAndGoOn 54 = .ok (.iconst 4, 1) := by decide +kernel
theorem dX6_recordAndGoOn_55 : decode cX6_recordAndGoOn 55 = .ok (.if_icmp .ge 23, 3) := by decide +kernel
theorem dX6_recordAndGoOn_58 : decode cX6_recordAndGoOn 58 = .ok (.aload_n 0, 1) := by decide +kernel
theorem dX6_recordAndGoOn_59 : decode cX6_recordAndGoOn 59 = .ok (.getfield 50, 3) := by decide +kernel
theorem dX6_recordAndGoOn_62 : decode cX6_recordAndGoOn 62 = .ok (.iload_n 2, 1) := by decide +kernel
theorem dX6_recordAndGoOn_63 : decode cX6_recordAndGoOn 63 = .ok (.iconst 1, 1) := by decide +kernel
theorem dX6_recordAndGoOn_64 : decode cX6_recordAndGoOn 64 = .ok (.isub, 1) := by decide +kernel
theorem dX6_recordAndGoOn_65 : decode cX6_recordAndGoOn 65 = .ok (.aload_n 0, 1) := by decide +kernel
theorem dX6_recordAndGoOn_66 : decode cX6_recordAndGoOn 66 = .ok (.getfield 50, 3) := by decide +kernel
theorem dX6_recordAndGoOn_69 : decode cX6_recordAndGoOn 69 = .ok (.iload_n 2, 1) := by decide +kernel
theorem dX6_recordAndGoOn_70 : decode cX6_recordAndGoOn 70 = .ok (.aaload, 1) := by decide +kernel
theorem dX6_recordAndGoOn_71 : decode cX6_recordAndGoOn 71 = .ok (.aastore, 1) := by decide +kernel
theorem dX6_recordAndGoOn_72 : decode cX6_recordAndGoOn 72 = .ok (.iinc 2 1, 3) := by decide +kernel
theorem dX6_recordAndGoOn_75 : decode cX6_recordAndGoOn 75 = .ok (.goto (-22), 3) := by decide +kernel
theorem dX6_recordAndGoOn_78 : decode cX6_recordAndGoOn 78 = .ok (.aload_n 0, 1) := by decide +kernel
theorem dX6_recordAndGoOn_79 : decode cX6_recordAndGoOn 79 = .ok (.getfield 50, 3) := by decide +kernel
theorem dX6_recordAndGoOn_82 : decode cX6_recordAndGoOn 82 = .ok (.iconst 3, 1) := by decide +kernel
theorem dX6_recordAndGoOn_83 : decode cX6_recordAndGoOn 83 = .ok (.aload_n 0, 1) := by decide +kernel
theorem dX6_recordAndGoOn_84 : decode cX6_recordAndGoOn 84 = .ok (.getfield 59, 3) := by decide +kernel
theorem dX6_recordAndGoOn_87 : decode cX6_recordAndGoOn 87 = .ok (.aastore, 1) := by decide +kernel
theorem dX6_recordAndGoOn_88 : decode cX6_recordAndGoOn 88 = .ok (.aload_n 0, 1) := by decide +kernel
theorem dX6_recordAndGoOn_89 : decode cX6_recordAndGoOn 89 = .ok (.aload_n 0, 1) := by decide +kernel
theorem dX6_recordAndGoOn_90 : decode cX6_recordAndGoOn 90 = .ok (.getfield 62, 3) := by decide +kernel
theorem dX6_recordAndGoOn_93 : decode cX6_recordAndGoOn 93 = .ok (.putfield 59, 3) := by decide +kernel
theorem dX6_recordAndGoOn_96 : decode cX6_recordAndGoOn 96 = .ok (.aload_n 0, 1) := by decide +kernel
theorem dX6_recordAndGoOn_97 : decode cX6_recordAndGoOn 97 = .ok (.aload_n 1, 1) := by decide +kernel
theorem dX6_recordAndGoOn_98 : decode cX6_recordAndGoOn 98 = .ok (.putfield 62, 3) := by decide +kernel
theorem dX6_recordAndGoOn_101 : decode cX6_recordAndGoOn 101 = .ok (.return_, 1) := by decide +kernel
theorem dX6_rewriteParts_0 : decode cX6_rewriteParts 0 = .ok (.iconst 0, 1) := by decide +kernel
theorem dX6_rewriteParts_1 : decode cX6_rewriteParts 1 = .ok (.istore 4, 2) := by decide +kernel
theorem dX6_rewriteParts_3 : decode cX6_rewriteParts 3 = .ok (.iload 4, 2) := by decide +kernel
theorem dX6_rewriteParts_5 : decode cX6_rewriteParts 5 = .ok (.aload_n 1, 1) := by decide +kernel
theorem dX6_rewriteParts_6 : decode cX6_rewriteParts 6 = .ok (.getfield 163, 3) := by decide +kernel
theorem dX6_rewriteParts_9 : decode cX6_rewriteParts 9 = .ok (.if_icmp .ge 55, 3) := by decide +kernel
theorem dX6_rewriteParts_12 : decode cX6_rewriteParts 12 = .ok (.aload_n 0, 1) := by decide +kernel
theorem dX6_rewriteParts_13 : decode cX6_rewriteParts 13 = .ok (.getfield 21, 3) := by decide +kernel
theorem dX6_rewriteParts_16 : decode cX6_rewriteParts 16 = .ok (.aload_n 0, 1) := by decide +kernel
theorem dX6_rewriteParts_17 : decode cX6_rewriteParts 17 = .ok (.aload_n 1, 1) := by decide +kernel
theorem dX6_rewriteParts_18 : decode cX6_rewriteParts 18 = .ok (.iload 4, 2) := by decide +kernel
theorem dX6_rewriteParts_20 : decode cX6_rewriteParts 20 = .ok (.invokevirtual 194, 3) := by decide +kernel
theorem dX6_rewriteParts_23 : decode cX6_rewriteParts 23 = .ok (.iload_n 3, 1) := by decide +kernel
theorem dX6_rewriteParts_24 : decode cX6_rewriteParts 24 = .ok (.invokevirtual 216, 3) := by decide +kernel
theorem dX6_rewriteParts_27 : decode cX6_rewriteParts 27 = .ok (.istore 5, 2) := by decide +kernel
theorem dX6_rewriteParts_29 : decode cX6_rewriteParts 29 = .ok (.aload_n 0, 1) := by decide +kernel
theorem dX6_rewriteParts_30 : decode cX6_rewriteParts 30 = .ok (.getfield 12, 3) := by decide +kernel
theorem dX6_rewriteParts_33 : decode cX6_rewriteParts 33 = .ok (.getfield 220, 3) := by decide +kernel
theorem dX6_rewriteParts_36 : decode cX6_rewriteParts 36 = .ok (.iload 5, 2) := by decide +kernel
theorem dX6_rewriteParts_38 : decode cX6_rewriteParts 38 = .ok (.iaload, 1) := by decide +kernel
theorem dX6_rewriteParts_39 : decode cX6_rewriteParts 39 = .ok (.bipush 120, 2) := by decide +kernel
theorem dX6_rewriteParts_41 : decode cX6_rewriteParts 41 = .ok (.if_icmp .le 5, 3) := by decide +kernel
theorem dX6_rewriteParts_44 : decode cX6_rewriteParts 44 = .ok (.iconst 0, 1) := by decide +kernel
theorem dX6_rewriteParts_45 : decode cX6_rewriteParts 45 = .ok (.ireturn, 1) := by decide +kernel
theorem dX6_rewriteParts_46 : decode cX6_rewriteParts 46 = .ok (.aload_n 0, 1) := by decide +kernel
theorem dX6_rewriteParts_47 : decode cX6_rewriteParts 47 = .ok (.getfield 28, 3) := by decide +kernel
theorem dX6_rewriteParts_50 : decode cX6_rewriteParts 50 = .ok (.iload 5, 2) := by decide +kernel
theorem dX6_rewriteParts_52 : decode cX6_rewriteParts 52 = .ok (.aload_n 2, 1) := by decide +kernel
theorem dX6_rewriteParts_53 : decode cX6_rewriteParts 53 = .ok (.iload 4, 2) := by decide +kernel
theorem dX6_rewriteParts_55 : decode cX6_rewriteParts 55 = .ok (.invokevirtual 223, 3) := by decide +kernel
theorem dX6_rewriteParts_58 : decode cX6_rewriteParts 58 = .ok (.iinc 4 1, 3) := by decide +kernel
theorem dX6_rewriteParts_61 : decode cX6_rewriteParts 61 = .ok (.goto (-58), 3) := by decide +kernel
theorem dX6_rewriteParts_64 : decode cX6_rewriteParts 64 = .ok (.iconst 1, 1) := by decide +kernel
theorem dX6_rewriteParts_65 : decode cX6_rewriteParts 65 = .ok (.ireturn, 1) := by decide +kernel
theorem dX6_signsToBlame_0 : decode cX6_signsToBlame 0 = .ok (.iconst 0, 1) := by decide +kernel
theorem dX6_signsToBlame_1 : decode cX6_signsToBlame 1 = .ok (.istore_n 3, 1) := by decide +kernel
theorem dX6_signsToBlame_2 : decode cX6_signsToBlame 2 = .ok (.iconst 0, 1) := by decide +kernel
theorem dX6_signsToBlame_3 : decode cX6_signsToBlame 3 = .ok (.istore 4, 2) := by decide +kernel
theorem dX6_signsToBlame_5 : decode cX6_signsToBlame 5 = .ok (.iload 4, 2) := by decide +kernel
theorem dX6_signsToBlame_7 : decode cX6_signsToBlame 7 = .ok (.bipush 6, 2) := by decide +kernel
theorem dX6_signsToBlame_9 : decode cX6_signsToBlame 9 = .ok (.if_icmp .ge 30, 3) := by decide +kernel
theorem dX6_signsToBlame_12 : decode cX6_signsToBlame 12 = .ok (.aload_n 0, 1) := by decide +kernel
theorem dX6_signsToBlame_13 : decode cX6_signsToBlame 13 = .ok (.aload_n 1, 1) := by decide +kernel
theorem dX6_signsToBlame_14 : decode cX6_signsToBlame 14 = .ok (.iload_n 2, 1) := by decide +kernel
theorem dX6_signsToBlame_15 : decode cX6_signsToBlame 15 = .ok (.iconst 1, 1) := by decide +kernel
theorem dX6_signsToBlame_16 : decode cX6_signsToBlame 16 = .ok (.iload 4, 2) := by decide +kernel
theorem dX6_signsToBlame_18 : decode cX6_signsToBlame 18 = .ok (.ishl, 1) := by decide +kernel
theorem dX6_signsToBlame_19 : decode cX6_signsToBlame 19 = .ok (.ixor, 1) := by decide +kernel
theorem dX6_signsToBlame_20 : decode cX6_signsToBlame 20 = .ok (.invokevirtual 201, 3) := by decide +kernel
theorem dX6_signsToBlame_23 : decode cX6_signsToBlame 23 = .ok (.ifCond .eq 10, 3) := by decide +kernel
theorem dX6_signsToBlame_26 : decode cX6_signsToBlame 26 = .ok (.iload_n 3, 1) := by decide +kernel
theorem dX6_signsToBlame_27 : decode cX6_signsToBlame 27 = .ok (.iconst 1, 1) := by decide +kernel
theorem dX6_signsToBlame_28 : decode cX6_signsToBlame 28 = .ok (.iload 4, 2) := by decide +kernel
theorem dX6_signsToBlame_30 : decode cX6_signsToBlame 30 = .ok (.ishl, 1) := by decide +kernel
theorem dX6_signsToBlame_31 : decode cX6_signsToBlame 31 = .ok (.ior, 1) := by decide +kernel
theorem dX6_signsToBlame_32 : decode cX6_signsToBlame 32 = .ok (.istore_n 3, 1) := by decide +kernel
theorem dX6_signsToBlame_33 : decode cX6_signsToBlame 33 = .ok (.iinc 4 1, 3) := by decide +kernel
theorem dX6_signsToBlame_36 : decode cX6_signsToBlame 36 = .ok (.goto (-31), 3) := by decide +kernel
theorem dX6_signsToBlame_39 : decode cX6_signsToBlame 39 = .ok (.iload_n 3, 1) := by decide +kernel
theorem dX6_signsToBlame_40 : decode cX6_signsToBlame 40 = .ok (.ireturn, 1) := by decide +kernel
theorem dX6_endParts_0 : decode cX6_endParts 0 = .ok (.iconst 0, 1) := by decide +kernel
theorem dX6_endParts_1 : decode cX6_endParts 1 = .ok (.istore_n 2, 1) := by decide +kernel
theorem dX6_endParts_2 : decode cX6_endParts 2 = .ok (.iload_n 2, 1) := by decide +kernel
theorem dX6_endParts_3 : decode cX6_endParts 3 = .ok (.aload_n 1, 1) := by decide +kernel
theorem dX6_endParts_4 : decode cX6_endParts 4 = .ok (.getfield 163, 3) := by decide +kernel
theorem dX6_endParts_7 : decode cX6_endParts 7 = .ok (.if_icmp .ge 42, 3) := by decide +kernel
theorem dX6_endParts_10 : decode cX6_endParts 10 = .ok (.aload_n 0, 1) := by decide +kernel
theorem dX6_endParts_11 : decode cX6_endParts 11 = .ok (.getfield 12, 3) := by decide +kernel
theorem dX6_endParts_14 : decode cX6_endParts 14 = .ok (.getfield 197, 3) := by decide +kernel
theorem dX6_endParts_17 : decode cX6_endParts 17 = .ok (.aload_n 0, 1) := by decide +kernel
theorem dX6_endParts_18 : decode cX6_endParts 18 = .ok (.aload_n 1, 1) := by decide +kernel
theorem dX6_endParts_19 : decode cX6_endParts 19 = .ok (.iload_n 2, 1) := by decide +kernel
theorem dX6_endParts_20 : decode cX6_endParts 20 = .ok (.invokevirtual 194, 3) := by decide +kernel
theorem dX6_endParts_23 : decode cX6_endParts 23 = .ok (.baload, 1) := by decide +kernel
theorem dX6_endParts_24 : decode cX6_endParts 24 = .ok (.istore_n 3, 1) := by decide +kernel
theorem dX6_endParts_25 : decode cX6_endParts 25 = .ok (.aload_n 0, 1) := by decide +kernel
theorem dX6_endParts_26 : decode cX6_endParts 26 = .ok (.getfield 28, 3) := by decide +kernel
theorem dX6_endParts_29 : decode cX6_endParts 29 = .ok (.iload_n 3, 1) := by decide +kernel
theorem dX6_endParts_30 : decode cX6_endParts 30 = .ok (.ifCond .eq 7, 3) := by decide +kernel
theorem dX6_endParts_33 : decode cX6_endParts 33 = .ok (.iconst 1, 1) := by decide +kernel
theorem dX6_endParts_34 : decode cX6_endParts 34 = .ok (.goto 4, 3) := by decide +kernel
theorem dX6_endParts_37 : decode cX6_endParts 37 = .ok (.iconst 0, 1) := by decide +kernel
theorem dX6_endParts_38 : decode cX6_endParts 38 = .ok (.aload_n 1, 1) := by decide +kernel
theorem dX6_endParts_39 : decode cX6_endParts 39 = .ok (.iload_n 2, 1) := by decide +kernel
theorem dX6_endParts_40 : decode cX6_endParts 40 = .ok (.invokevirtual 223, 3) := by decide +kernel
theorem dX6_endParts_43 : decode cX6_endParts 43 = .ok (.iinc 2 1, 3) := by decide +kernel
theorem dX6_endParts_46 : decode cX6_endParts 46 = .ok (.goto (-44), 3) := by decide +kernel
theorem dX6_endParts_49 : decode cX6_endParts 49 = .ok (.return_, 1) := by decide +kernel
theorem dX6_bring_0 : decode cX6_bring 0 = .ok (.aload_n 0, 1) := by decide +kernel
theorem dX6_bring_1 : decode cX6_bring 1 = .ok (.getfield 12, 3) := by decide +kernel
theorem dX6_bring_4 : decode cX6_bring 4 = .ok (.getfield 227, 3) := by decide +kernel
theorem dX6_bring_7 : decode cX6_bring 7 = .ok (.iload_n 1, 1) := by decide +kernel
theorem dX6_bring_8 : decode cX6_bring 8 = .ok (.iaload, 1) := by decide +kernel
theorem dX6_bring_9 : decode cX6_bring 9 = .ok (.bipush 20, 2) := by decide +kernel
theorem dX6_bring_11 : decode cX6_bring 11 = .ok (.if_icmp .ne 7, 3) := by decide +kernel
theorem dX6_bring_14 : decode cX6_bring 14 = .ok (.iconst 1, 1) := by decide +kernel
theorem dX6_bring_15 : decode cX6_bring 15 = .ok (.goto 4, 3) := by decide +kernel
theorem dX6_bring_18 : decode cX6_bring 18 = .ok (.iconst 0, 1) := by decide +kernel
theorem dX6_bring_19 : decode cX6_bring 19 = .ok (.istore_n 2, 1) := by decide +kernel
theorem dX6_bring_20 : decode cX6_bring 20 = .ok (.iload_n 2, 1) := by decide +kernel
theorem dX6_bring_21 : decode cX6_bring 21 = .ok (.ifCond .eq 15, 3) := by decide +kernel
theorem dX6_bring_24 : decode cX6_bring 24 = .ok (.aload_n 0, 1) := by decide +kernel
theorem dX6_bring_25 : decode cX6_bring 25 = .ok (.getfield 12, 3) := by decide +kernel
theorem dX6_bring_28 : decode cX6_bring 28 = .ok (.getfield 230, 3) := by decide +kernel
theorem dX6_bring_31 : decode cX6_bring 31 = .ok (.iload_n 1, 1) := by decide +kernel
theorem dX6_bring_32 : decode cX6_bring 32 = .ok (.iaload, 1) := by decide +kernel
theorem dX6_bring_33 : decode cX6_bring 33 = .ok (.goto 4, 3) := by decide +kernel
theorem dX6_bring_36 : decode cX6_bring 36 = .ok (.iconst 1, 1) := by decide +kernel
theorem dX6_bring_37 : decode cX6_bring 37 = .ok (.istore_n 3, 1) := by decide +kernel
theorem dX6_bring_38 : decode cX6_bring 38 = .ok (.iload_n 3, 1) := by decide +kernel
theorem dX6_bring_39 : decode cX6_bring 39 = .ok (.bipush 8, 2) := by decide +kernel
theorem dX6_bring_41 : decode cX6_bring 41 = .ok (.if_icmp .le 6, 3) := by decide +kernel
theorem dX6_bring_44 : decode cX6_bring 44 = .ok (.bipush (-3), 2) := by decide +kernel
theorem dX6_bring_46 : decode cX6_bring 46 = .ok (.ireturn, 1) := by decide +kernel
theorem dX6_bring_47 : decode cX6_bring 47 = .ok (.aload_n 0, 1) := by decide +kernel
theorem dX6_bring_48 : decode cX6_bring 48 = .ok (.getfield 59, 3) := by decide +kernel
theorem dX6_bring_51 : decode cX6_bring 51 = .ok (.getfield 77, 3) := by decide +kernel
theorem dX6_bring_54 : decode cX6_bring 54 = .ok (.istore 4, 2) := by decide +kernel
theorem dX6_bring_56 : decode cX6_bring 56 = .ok (.aload_n 0, 1) := by decide +kernel
theorem dX6_bring_57 : decode cX6_bring 57 = .ok (.getfield 62, 3) := by decide +kernel
theorem dX6_bring_60 : decode cX6_bring 60 = .ok (.aload_n 0, 1) := by decide +kernel
theorem dX6_bring_61 : decode cX6_bring 61 = .ok (.getfield 59, 3) := by decide +kernel
theorem dX6_bring_64 : decode cX6_bring 64 = .ok (.invokevirtual 73, 3) := by decide +kernel
theorem dX6_bring_67 : decode cX6_bring 67 = .ok (.aload_n 0, 1) := by decide +kernel
theorem dX6_bring_68 : decode cX6_bring 68 = .ok (.getfield 62, 3) := by decide +kernel
theorem dX6_bring_71 : decode cX6_bring 71 = .ok (.getfield 80, 3) := by decide +kernel
theorem dX6_bring_74 : decode cX6_bring 74 = .ok (.iload 4, 2) := by decide +kernel
theorem dX6_bring_76 : decode cX6_bring 76 = .ok (.aaload, 1) := by decide +kernel
theorem dX6_bring_77 : decode cX6_bring 77 = .ok (.astore 5, 2) := by decide +kernel
theorem dX6_bring_79 : decode cX6_bring 79 = .ok (.iconst 0, 1) := by decide +kernel
theorem dX6_bring_80 : decode cX6_bring 80 = .ok (.istore 6, 2) := by decide +kernel
theorem dX6_bring_82 : decode cX6_bring 82 = .ok (.iload 6, 2) := by decide +kernel
theorem dX6_bring_84 : decode cX6_bring 84 = .ok (.iload_n 3, 1) := by decide +kernel
theorem dX6_bring_85 : decode cX6_bring 85 = .ok (.if_icmp .ge 60, 3) := by decide +kernel
theorem dX6_bring_88 : decode cX6_bring 88 = .ok (.iload_n 2, 1) := by decide +kernel
theorem dX6_bring_89 : decode cX6_bring 89 = .ok (.ifCond .eq 16, 3) := by decide +kernel
theorem dX6_bring_92 : decode cX6_bring 92 = .ok (.aload_n 0, 1) := by decide +kernel
theorem dX6_bring_93 : decode cX6_bring 93 = .ok (.getfield 12, 3) := by decide +kernel
theorem dX6_bring_96 : decode cX6_bring 96 = .ok (.iload_n 1, 1) := by decide +kernel
theorem dX6_bring_97 : decode cX6_bring 97 = .ok (.iload 6, 2) := by decide +kernel
theorem dX6_bring_99 : decode cX6_bring 99 = .ok (.invokevirtual 233, 3) := by decide +kernel
theorem dX6_bring_102 : decode cX6_bring 102 = .ok (.goto 4, 3) := by decide +kernel
theorem dX6_bring_105 : decode cX6_bring 105 = .ok (.iload_n 1, 1) := by decide +kernel
theorem dX6_bring_106 : decode cX6_bring 106 = .ok (.istore 7, 2) := by decide +kernel
theorem dX6_bring_108 : decode cX6_bring 108 = .ok (.aload_n 0, 1) := by decide +kernel
theorem dX6_bring_109 : decode cX6_bring 109 = .ok (.getfield 12, 3) := by decide +kernel
theorem dX6_bring_112 : decode cX6_bring 112 = .ok (.getfield 220, 3) := by decide +kernel
theorem dX6_bring_115 : decode cX6_bring 115 = .ok (.iload 7, 2) := by decide +kernel
theorem dX6_bring_117 : decode cX6_bring 117 = .ok (.iaload, 1) := by decide +kernel
theorem dX6_bring_118 : decode cX6_bring 118 = .ok (.bipush 120, 2) := by decide +kernel
theorem dX6_bring_120 : decode cX6_bring 120 = .ok (.if_icmp .le 6, 3) := by decide +kernel
theorem dX6_bring_123 : decode cX6_bring 123 = .ok (.bipush (-3), 2) := by decide +kernel
theorem dX6_bring_125 : decode cX6_bring 125 = .ok (.ireturn, 1) := by decide +kernel
theorem dX6_bring_126 : decode cX6_bring 126 = .ok (.aload_n 0, 1) := by decide +kernel
theorem dX6_bring_127 : decode cX6_bring 127 = .ok (.getfield 28, 3) := by decide +kernel
theorem dX6_bring_130 : decode cX6_bring 130 = .ok (.iload 7, 2) := by decide +kernel
theorem dX6_bring_132 : decode cX6_bring 132 = .ok (.aload 5, 2) := by decide +kernel
theorem dX6_bring_134 : decode cX6_bring 134 = .ok (.iload 6, 2) := by decide +kernel
theorem dX6_bring_136 : decode cX6_bring 136 = .ok (.invokevirtual 223, 3) := by decide +kernel
theorem dX6_bring_139 : decode cX6_bring 139 = .ok (.iinc 6 1, 3) := by decide +kernel
theorem dX6_bring_142 : decode cX6_bring 142 = .ok (.goto (-60), 3) := by decide +kernel
theorem dX6_bring_145 : decode cX6_bring 145 = .ok (.aload 5, 2) := by decide +kernel
theorem dX6_bring_147 : decode cX6_bring 147 = .ok (.iload_n 3, 1) := by decide +kernel
theorem dX6_bring_148 : decode cX6_bring 148 = .ok (.aload_n 0, 1) := by decide +kernel
theorem dX6_bring_149 : decode cX6_bring 149 = .ok (.getfield 59, 3) := by decide +kernel
theorem dX6_bring_152 : decode cX6_bring 152 = .ok (.getfield 69, 3) := by decide +kernel
theorem dX6_bring_155 : decode cX6_bring 155 = .ok (.invokevirtual 236, 3) := by decide +kernel
theorem dX6_bring_158 : decode cX6_bring 158 = .ok (.aload_n 0, 1) := by decide +kernel
theorem dX6_bring_159 : decode cX6_bring 159 = .ok (.getfield 62, 3) := by decide +kernel
theorem dX6_bring_162 : decode cX6_bring 162 = .ok (.dup, 1) := by decide +kernel
theorem dX6_bring_163 : decode cX6_bring 163 = .ok (.getfield 77, 3) := by decide +kernel
theorem dX6_bring_166 : decode cX6_bring 166 = .ok (.iconst 1, 1) := by decide +kernel
theorem dX6_bring_167 : decode cX6_bring 167 = .ok (.iadd, 1) := by decide +kernel
theorem dX6_bring_168 : decode cX6_bring 168 = .ok (.putfield 77, 3) := by decide +kernel
theorem dX6_bring_171 : decode cX6_bring 171 = .ok (.aload_n 0, 1) := by decide +kernel
theorem dX6_bring_172 : decode cX6_bring 172 = .ok (.invokevirtual 110, 3) := by decide +kernel
theorem dX6_bring_175 : decode cX6_bring 175 = .ok (.iload 4, 2) := by decide +kernel
theorem dX6_bring_177 : decode cX6_bring 177 = .ok (.ireturn, 1) := by decide +kernel
theorem dX6_loadAlone_0 : decode cX6_loadAlone 0 = .ok (.aload_n 0, 1) := by decide +kernel
theorem dX6_loadAlone_1 : decode cX6_loadAlone 1 = .ok (.getfield 12, 3) := by decide +kernel
theorem dX6_loadAlone_4 : decode cX6_loadAlone 4 = .ok (.bipush 16, 2) := by decide +kernel
theorem dX6_loadAlone_6 : decode cX6_loadAlone 6 = .ok (.invokevirtual 124, 3) := by decide +kernel
theorem dX6_loadAlone_9 : decode cX6_loadAlone 9 = .ok (.aload_n 0, 1) := by decide +kernel
theorem dX6_loadAlone_10 : decode cX6_loadAlone 10 = .ok (.getfield 28, 3) := by decide +kernel
theorem dX6_loadAlone_13 : decode cX6_loadAlone 13 = .ok (.aload_n 1, 1) := by decide +kernel
theorem dX6_loadAlone_14 : decode cX6_loadAlone 14 = .ok (.iload_n 2, 1) := by decide +kernel
theorem dX6_loadAlone_15 : decode cX6_loadAlone 15 = .ok (.invokevirtual 240, 3) := by decide +kernel
theorem dX6_loadAlone_18 : decode cX6_loadAlone 18 = .ok (.ireturn, 1) := by decide +kernel
theorem dX6_allOfParts_0 : decode cX6_allOfParts 0 = .ok (.aload_n 0, 1) := by decide +kernel
theorem dX6_allOfParts_1 : decode cX6_allOfParts 1 = .ok (.getfield 21, 3) := by decide +kernel
theorem dX6_allOfParts_4 : decode cX6_allOfParts 4 = .ok (.bipush 20, 2) := by decide +kernel
theorem dX6_allOfParts_6 : decode cX6_allOfParts 6 = .ok (.invokevirtual 243, 3) := by decide +kernel
theorem dX6_allOfParts_9 : decode cX6_allOfParts 9 = .ok (.iconst 0, 1) := by decide +kernel
theorem dX6_allOfParts_10 : decode cX6_allOfParts 10 = .ok (.istore_n 2, 1) := by decide +kernel
theorem dX6_allOfParts_11 : decode cX6_allOfParts 11 = .ok (.iload_n 2, 1) := by decide +kernel
theorem dX6_allOfParts_12 : decode cX6_allOfParts 12 = .ok (.aload_n 1, 1) := by decide +kernel
theorem dX6_allOfParts_13 : decode cX6_allOfParts 13 = .ok (.getfield 163, 3) := by decide +kernel
theorem dX6_allOfParts_16 : decode cX6_allOfParts 16 = .ok (.if_icmp .ge 25, 3) := by decide +kernel
theorem dX6_allOfParts_19 : decode cX6_allOfParts 19 = .ok (.aload_n 0, 1) := by decide +kernel
theorem dX6_allOfParts_20 : decode cX6_allOfParts 20 = .ok (.getfield 21, 3) := by decide +kernel
theorem dX6_allOfParts_23 : decode cX6_allOfParts 23 = .ok (.aload_n 0, 1) := by decide +kernel
theorem dX6_allOfParts_24 : decode cX6_allOfParts 24 = .ok (.getfield 28, 3) := by decide +kernel
theorem dX6_allOfParts_27 : decode cX6_allOfParts 27 = .ok (.aload_n 1, 1) := by decide +kernel
theorem dX6_allOfParts_28 : decode cX6_allOfParts 28 = .ok (.iload_n 2, 1) := by decide +kernel
theorem dX6_allOfParts_29 : decode cX6_allOfParts 29 = .ok (.invokevirtual 240, 3) := by decide +kernel
theorem dX6_allOfParts_32 : decode cX6_allOfParts 32 = .ok (.invokevirtual 246, 3) := by decide +kernel
theorem dX6_allOfParts_35 : decode cX6_allOfParts 35 = .ok (.iinc 2 1, 3) := by decide +kernel
theorem dX6_allOfParts_38 : decode cX6_allOfParts 38 = .ok (.goto (-27), 3) := by decide +kernel
theorem dX6_allOfParts_41 : decode cX6_allOfParts 41 = .ok (.aload_n 0, 1) := by decide +kernel
theorem dX6_allOfParts_42 : decode cX6_allOfParts 42 = .ok (.getfield 21, 3) := by decide +kernel
theorem dX6_allOfParts_45 : decode cX6_allOfParts 45 = .ok (.invokevirtual 249, 3) := by decide +kernel
theorem dX6_allOfParts_48 : decode cX6_allOfParts 48 = .ok (.ireturn, 1) := by decide +kernel
theorem dX6_verdictIfEnded_0 : decode cX6_verdictIfEnded 0 = .ok (.aload_n 1, 1) := by decide +kernel
theorem dX6_verdictIfEnded_1 : decode cX6_verdictIfEnded 1 = .ok (.getfield 93, 3) := by decide +kernel
theorem dX6_verdictIfEnded_4 : decode cX6_verdictIfEnded 4 = .ok (.iconst 2, 1) := by decide +kernel
theorem dX6_verdictIfEnded_5 : decode cX6_verdictIfEnded 5 = .ok (.if_icmp .eq 8, 3) := by decide +kernel
theorem dX6_verdictIfEnded_8 : decode cX6_verdictIfEnded 8 = .ok (.aload_n 1, 1) := by decide +kernel
theorem dX6_verdictIfEnded_9 : decode cX6_verdictIfEnded 9 = .ok (.getfield 93, 3) := by decide +kernel
theorem dX6_verdictIfEnded_12 : decode cX6_verdictIfEnded 12 = .ok (.ireturn, 1) := by decide +kernel
theorem dX6_verdictIfEnded_13 : decode cX6_verdictIfEnded 13 = .ok (.iconst 0, 1) := by decide +kernel
theorem dX6_verdictIfEnded_14 : decode cX6_verdictIfEnded 14 = .ok (.istore_n 2, 1) := by decide +kernel
theorem dX6_verdictIfEnded_15 : decode cX6_verdictIfEnded 15 = .ok (.iload_n 2, 1) := by decide +kernel
theorem dX6_verdictIfEnded_16 : decode cX6_verdictIfEnded 16 = .ok (.aload_n 1, 1) := by decide +kernel
theorem dX6_verdictIfEnded_17 : decode cX6_verdictIfEnded 17 = .ok (.getfield 163, 3) := by decide +kernel
theorem dX6_verdictIfEnded_20 : decode cX6_verdictIfEnded 20 = .ok (.if_icmp .ge 28, 3) := by decide +kernel
theorem dX6_verdictIfEnded_23 : decode cX6_verdictIfEnded 23 = .ok (.aload_n 0, 1) := by decide +kernel
theorem dX6_verdictIfEnded_24 : decode cX6_verdictIfEnded 24 = .ok (.getfield 12, 3) := by decide +kernel
theorem dX6_verdictIfEnded_27 : decode cX6_verdictIfEnded 27 = .ok (.getfield 197, 3) := by decide +kernel
theorem dX6_verdictIfEnded_30 : decode cX6_verdictIfEnded 30 = .ok (.aload_n 0, 1) := by decide +kernel
theorem dX6_verdictIfEnded_31 : decode cX6_verdictIfEnded 31 = .ok (.aload_n 1, 1) := by decide +kernel
theorem dX6_verdictIfEnded_32 : decode cX6_verdictIfEnded 32 = .ok (.iload_n 2, 1) := by decide +kernel
theorem dX6_verdictIfEnded_33 : decode cX6_verdictIfEnded 33 = .ok (.invokevirtual 194, 3) := by decide +kernel
theorem dX6_verdictIfEnded_36 : decode cX6_verdictIfEnded 36 = .ok (.baload, 1) := by decide +kernel
theorem dX6_verdictIfEnded_37 : decode cX6_verdictIfEnded 37 = .ok (.ifCond .ne 5, 3) := by decide +kernel
theorem dX6_verdictIfEnded_40 : decode cX6_verdictIfEnded 40 = .ok (.iconst 0, 1) := by decide +kernel
theorem dX6_verdictIfEnded_41 : decode cX6_verdictIfEnded 41 = .ok (.ireturn, 1) := by decide +kernel
theorem dX6_verdictIfEnded_42 : decode cX6_verdictIfEnded 42 = .ok (.iinc 2 1, 3) := by decide +kernel
theorem dX6_verdictIfEnded_45 : decode cX6_verdictIfEnded 45 = .ok (.goto (-30), 3) := by decide +kernel
theorem dX6_verdictIfEnded_48 : decode cX6_verdictIfEnded 48 = .ok (.iconst 1, 1) := by decide +kernel
theorem dX6_verdictIfEnded_49 : decode cX6_verdictIfEnded 49 = .ok (.ireturn, 1) := by decide +kernel
theorem dX6_verdictBehind_0 : decode cX6_verdictBehind 0 = .ok (.aload_n 1, 1) := by decide +kernel
theorem dX6_verdictBehind_1 : decode cX6_verdictBehind 1 = .ok (.getfield 93, 3) := by decide +kernel
theorem dX6_verdictBehind_4 : decode cX6_verdictBehind 4 = .ok (.iconst 2, 1) := by decide +kernel
theorem dX6_verdictBehind_5 : decode cX6_verdictBehind 5 = .ok (.if_icmp .eq 8, 3) := by decide +kernel
theorem dX6_verdictBehind_8 : decode cX6_verdictBehind 8 = .ok (.aload_n 1, 1) := by decide +kernel
theorem dX6_verdictBehind_9 : decode cX6_verdictBehind 9 = .ok (.getfield 93, 3) := by decide +kernel
theorem dX6_verdictBehind_12 : decode cX6_verdictBehind 12 = .ok (.ireturn, 1) := by decide +kernel
theorem dX6_verdictBehind_13 : decode cX6_verdictBehind 13 = .ok (.iconst 1, 1) := by decide +kernel
theorem dX6_verdictBehind_14 : decode cX6_verdictBehind 14 = .ok (.istore_n 3, 1) := by decide +kernel
theorem dX6_verdictBehind_15 : decode cX6_verdictBehind 15 = .ok (.iconst 0, 1) := by decide +kernel
theorem dX6_verdictBehind_16 : decode cX6_verdictBehind 16 = .ok (.istore 4, 2) := by decide +kernel
theorem dX6_verdictBehind_18 : decode cX6_verdictBehind 18 = .ok (.iload 4, 2) := by decide +kernel
theorem dX6_verdictBehind_20 : decode cX6_verdictBehind 20 = .ok (.aload_n 1, 1) := by decide +kernel
theorem dX6_verdictBehind_21 : decode cX6_verdictBehind 21 = .ok (.getfield 163, 3) := by decide +kernel
theorem dX6_verdictBehind_24 : decode cX6_verdictBehind 24 = .ok (.if_icmp .ge 40, 3) := by decide +kernel
theorem dX6_verdictBehind_27 : decode cX6_verdictBehind 27 = .ok (.iload_n 3, 1) := by decide +kernel
theorem dX6_verdictBehind_28 : decode cX6_verdictBehind 28 = .ok (.ifCond .eq 36, 3) := by decide +kernel
theorem dX6_verdictBehind_31 : decode cX6_verdictBehind 31 = .ok (.aload_n 0, 1) := by decide +kernel
theorem dX6_verdictBehind_32 : decode cX6_verdictBehind 32 = .ok (.getfield 21, 3) := by decide +kernel
theorem dX6_verdictBehind_35 : decode cX6_verdictBehind 35 = .ok (.aload_n 0, 1) := by decide +kernel
theorem dX6_verdictBehind_36 : decode cX6_verdictBehind 36 = .ok (.aload_n 1, 1) := by decide +kernel
theorem dX6_verdictBehind_37 : decode cX6_verdictBehind 37 = .ok (.iload 4, 2) := by decide +kernel
theorem dX6_verdictBehind_39 : decode cX6_verdictBehind 39 = .ok (.invokevirtual 194, 3) := by decide +kernel
theorem dX6_verdictBehind_42 : decode cX6_verdictBehind 42 = .ok (.iload_n 2, 1) := by decide +kernel
theorem dX6_verdictBehind_43 : decode cX6_verdictBehind 43 = .ok (.invokevirtual 216, 3) := by decide +kernel
theorem dX6_verdictBehind_46 : decode cX6_verdictBehind 46 = .ok (.istore 5, 2) := by decide +kernel
theorem dX6_verdictBehind_48 : decode cX6_verdictBehind 48 = .ok (.iload_n 3, 1) := by decide +kernel
theorem dX6_verdictBehind_49 : decode cX6_verdictBehind 49 = .ok (.iload 5, 2) := by decide +kernel
theorem dX6_verdictBehind_51 : decode cX6_verdictBehind 51 = .ok (.invokestatic 252, 3) := by decide +kernel
theorem dX6_verdictBehind_54 : decode cX6_verdictBehind 54 = .ok (.invokestatic 255, 3) := by decide +kernel
theorem dX6_verdictBehind_57 : decode cX6_verdictBehind 57 = .ok (.istore_n 3, 1) := by decide +kernel
theorem dX6_verdictBehind_58 : decode cX6_verdictBehind 58 = .ok (.iinc 4 1, 3) := by decide +kernel
theorem dX6_verdictBehind_61 : decode cX6_verdictBehind 61 = .ok (.goto (-43), 3) := by decide +kernel
theorem dX6_verdictBehind_64 : decode cX6_verdictBehind 64 = .ok (.iload_n 3, 1) := by decide +kernel
theorem dX6_verdictBehind_65 : decode cX6_verdictBehind 65 = .ok (.ireturn, 1) := by decide +kernel
theorem dX6_findOutcomes_0 : decode cX6_findOutcomes 0 = .ok (.iconst 0, 1) := by decide +kernel
theorem dX6_findOutcomes_1 : decode cX6_findOutcomes 1 = .ok (.istore_n 2, 1) := by decide +kernel
theorem dX6_findOutcomes_2 : decode cX6_findOutcomes 2 = .ok (.iload_n 2, 1) := by decide +kernel
theorem dX6_findOutcomes_3 : decode cX6_findOutcomes 3 = .ok (.bipush 64, 2) := by decide +kernel
theorem dX6_findOutcomes_5 : decode cX6_findOutcomes 5 = .ok (.if_icmp .ge 31, 3) := by decide +kernel
theorem dX6_findOutcomes_8 : decode cX6_findOutcomes 8 = .ok (.aload_n 0, 1) := by decide +kernel
theorem dX6_findOutcomes_9 : decode cX6_findOutcomes 9 = .ok (.getfield 41, 3) := by decide +kernel
theorem dX6_findOutcomes_12 : decode cX6_findOutcomes 12 = .ok (.iload_n 2, 1) := by decide +kernel
theorem dX6_findOutcomes_13 : decode cX6_findOutcomes 13 = .ok (.aload_n 1, 1) := by decide +kernel
theorem dX6_findOutcomes_14 : decode cX6_findOutcomes 14 = .ok (.getfield 93, 3) := by decide +kernel
theorem dX6_findOutcomes_17 : decode cX6_findOutcomes 17 = .ok (.iconst 2, 1) := by decide +kernel
theorem dX6_findOutcomes_18 : decode cX6_findOutcomes 18 = .ok (.if_icmp .ne 7, 3) := by decide +kernel
theorem dX6_findOutcomes_21 : decode cX6_findOutcomes 21 = .ok (.iconst 1, 1) := by decide +kernel
theorem dX6_findOutcomes_22 : decode cX6_findOutcomes 22 = .ok (.goto 7, 3) := by decide +kernel
theorem dX6_findOutcomes_25 : decode cX6_findOutcomes 25 = .ok (.aload_n 1, 1) := by decide +kernel
theorem dX6_findOutcomes_26 : decode cX6_findOutcomes 26 = .ok (.getfield 93, 3) := by decide +kernel
theorem dX6_findOutcomes_29 : decode cX6_findOutcomes 29 = .ok (.iastore, 1) := by decide +kernel
theorem dX6_findOutcomes_30 : decode cX6_findOutcomes 30 = .ok (.iinc 2 1, 3) := by decide +kernel
theorem dX6_findOutcomes_33 : decode cX6_findOutcomes 33 = .ok (.goto (-31), 3) := by decide +kernel
theorem dX6_findOutcomes_36 : decode cX6_findOutcomes 36 = .ok (.aload_n 1, 1) := by decide +kernel
theorem dX6_findOutcomes_37 : decode cX6_findOutcomes 37 = .ok (.getfield 93, 3) := by decide +kernel
theorem dX6_findOutcomes_40 : decode cX6_findOutcomes 40 = .ok (.iconst 2, 1) := by decide +kernel
theorem dX6_findOutcomes_41 : decode cX6_findOutcomes 41 = .ok (.if_icmp .ne 25, 3) := by decide +kernel
theorem dX6_findOutcomes_44 : decode cX6_findOutcomes 44 = .ok (.iconst 0, 1) := by decide +kernel
theorem dX6_findOutcomes_45 : decode cX6_findOutcomes 45 = .ok (.istore_n 2, 1) := by decide +kernel
theorem dX6_findOutcomes_46 : decode cX6_findOutcomes 46 = .ok (.iload_n 2, 1) := by decide +kernel
theorem dX6_findOutcomes_47 : decode cX6_findOutcomes 47 = .ok (.aload_n 1, 1) := by decide +kernel
theorem dX6_findOutcomes_48 : decode cX6_findOutcomes 48 = .ok (.getfield 163, 3) := by decide +kernel
theorem dX6_findOutcomes_51 : decode cX6_findOutcomes 51 = .ok (.if_icmp .ge 15, 3) := by decide +kernel
theorem dX6_findOutcomes_54 : decode cX6_findOutcomes 54 = .ok (.aload_n 0, 1) := by decide +kernel
theorem dX6_findOutcomes_55 : decode cX6_findOutcomes 55 = .ok (.aload_n 1, 1) := by decide +kernel
theorem dX6_findOutcomes_56 : decode cX6_findOutcomes 56 = .ok (.iload_n 2, 1) := by decide +kernel
theorem dX6_findOutcomes_57 : decode cX6_findOutcomes 57 = .ok (.invokevirtual 258, 3) := by decide +kernel
theorem dX6_findOutcomes_60 : decode cX6_findOutcomes 60 = .ok (.iinc 2 1, 3) := by decide +kernel
theorem dX6_findOutcomes_63 : decode cX6_findOutcomes 63 = .ok (.goto (-17), 3) := by decide +kernel
theorem dX6_findOutcomes_66 : decode cX6_findOutcomes 66 = .ok (.return_, 1) := by decide +kernel
theorem dX6_addOutcomesOfPart_0 : decode cX6_addOutcomesOfPart 0 = .ok (.aload_n 0, 1) := by decide +kernel
theorem dX6_addOutcomesOfPart_1 : decode cX6_addOutcomesOfPart 1 = .ok (.aload_n 1, 1) := by decide +kernel
theorem dX6_addOutcomesOfPart_2 : decode cX6_addOutcomesOfPart 2 = .ok (.iload_n 2, 1) := by decide +kernel
theorem dX6_addOutcomesOfPart_3 : decode cX6_addOutcomesOfPart 3 = .ok (.invokevirtual 194, 3) := by decide +kernel
theorem dX6_addOutcomesOfPart_6 : decode cX6_addOutcomesOfPart 6 = .ok (.istore_n 3, 1) := by decide +kernel
theorem dX6_addOutcomesOfPart_7 : decode cX6_addOutcomesOfPart 7 = .ok (.aload_n 0, 1) := by decide +kernel
theorem dX6_addOutcomesOfPart_8 : decode cX6_addOutcomesOfPart 8 = .ok (.getfield 12, 3) := by decide +kernel
theorem dX6_addOutcomesOfPart_11 : decode cX6_addOutcomesOfPart 11 = .ok (.getfield 191, 3) := by decide +kernel
theorem dX6_addOutcomesOfPart_14 : decode cX6_addOutcomesOfPart 14 = .ok (.iload_n 3, 1) := by decide +kernel
theorem dX6_addOutcomesOfPart_15 : decode cX6_addOutcomesOfPart 15 = .ok (.iaload, 1) := by decide +kernel
theorem dX6_addOutcomesOfPart_16 : decode cX6_addOutcomesOfPart 16 = .ok (.istore 4, 2) := by decide +kernel
theorem dX6_addOutcomesOfPart_18 : decode cX6_addOutcomesOfPart 18 = .ok (.aload_n 0, 1) := by decide +kernel
theorem dX6_addOutcomesOfPart_19 : decode cX6_addOutcomesOfPart 19 = .ok (.getfield 12, 3) := by decide +kernel
theorem dX6_addOutcomesOfPart_22 : decode cX6_addOutcomesOfPart 22 = .ok (.getfield 262, 3) := by decide +kernel
theorem dX6_addOutcomesOfPart_25 : decode cX6_addOutcomesOfPart 25 = .ok (.istore 5, 2) := by decide +kernel
theorem dX6_addOutcomesOfPart_27 : decode cX6_addOutcomesOfPart 27 = .ok (.iconst 0, 1) := by decide +kernel
theorem dX6_addOutcomesOfPart_28 : decode cX6_addOutcomesOfPart 28 = .ok (.istore 6, 2) := by decide +kernel
theorem dX6_addOutcomesOfPart_30 : decode cX6_addOutcomesOfPart 30 = .ok (.iload 6, 2) := by decide +kernel
theorem dX6_addOutcomesOfPart_32 : decode cX6_addOutcomesOfPart 32 = .ok (.bipush 64, 2) := by decide +kernel
theorem dX6_addOutcomesOfPart_34 : decode cX6_addOutcomesOfPart 34 = .ok (.if_icmp .ge 75, 3) := by decide +kernel
theorem dX6_addOutcomesOfPart_37 : decode cX6_addOutcomesOfPart 37 = .ok (.iload 6, 2) := by decide +kernel
theorem dX6_addOutcomesOfPart_39 : decode cX6_addOutcomesOfPart 39 = .ok (.iload 4, 2) := by decide +kernel
theorem dX6_addOutcomesOfPart_41 : decode cX6_addOutcomesOfPart 41 = .ok (.iand, 1) := by decide +kernel
theorem dX6_addOutcomesOfPart_42 : decode cX6_addOutcomesOfPart 42 = .ok (.iload 6, 2) := by decide +kernel
theorem dX6_addOutcomesOfPart_44 : decode cX6_addOutcomesOfPart 44 = .ok (.if_icmp .ne 32, 3) := by decide +kernel
theorem dX6_addOutcomesOfPart_47 : decode cX6_addOutcomesOfPart 47 = .ok (.aload_n 0, 1) := by decide +kernel
theorem dX6_addOutcomesOfPart_48 : decode cX6_addOutcomesOfPart 48 = .ok (.getfield 45, 3) := by decide +kernel
theorem dX6_addOutcomesOfPart_51 : decode cX6_addOutcomesOfPart 51 = .ok (.iload 6, 2) := by decide +kernel
theorem dX6_addOutcomesOfPart_53 : decode cX6_addOutcomesOfPart 53 = .ok (.aload_n 0, 1) := by decide +kernel
theorem dX6_addOutcomesOfPart_54 : decode cX6_addOutcomesOfPart 54 = .ok (.getfield 21, 3) := by decide +kernel
theorem dX6_addOutcomesOfPart_57 : decode cX6_addOutcomesOfPart 57 = .ok (.iload_n 3, 1) := by decide +kernel
theorem dX6_addOutcomesOfPart_58 : decode cX6_addOutcomesOfPart 58 = .ok (.iload 6, 2) := by decide +kernel
theorem dX6_addOutcomesOfPart_60 : decode cX6_addOutcomesOfPart 60 = .ok (.invokevirtual 216, 3) := by decide +kernel
theorem dX6_addOutcomesOfPart_63 : decode cX6_addOutcomesOfPart 63 = .ok (.invokestatic 252, 3) := by decide +kernel
theorem dX6_addOutcomesOfPart_66 : decode cX6_addOutcomesOfPart 66 = .ok (.iastore, 1) := by decide +kernel
theorem dX6_addOutcomesOfPart_67 : decode cX6_addOutcomesOfPart 67 = .ok (.aload_n 0, 1) := by decide +kernel
theorem dX6_addOutcomesOfPart_68 : decode cX6_addOutcomesOfPart 68 = .ok (.getfield 12, 3) := by decide +kernel
theorem dX6_addOutcomesOfPart_71 : decode cX6_addOutcomesOfPart 71 = .ok (.iload 5, 2) := by decide +kernel
theorem dX6_addOutcomesOfPart_73 : decode cX6_addOutcomesOfPart 73 = .ok (.invokevirtual 124, 3) := by decide +kernel
theorem dX6_addOutcomesOfPart_76 : decode cX6_addOutcomesOfPart 76 = .ok (.aload_n 0, 1) := by decide +kernel
theorem dX6_addOutcomesOfPart_77 : decode cX6_addOutcomesOfPart 77 = .ok (.getfield 41, 3) := by decide +kernel
theorem dX6_addOutcomesOfPart_80 : decode cX6_addOutcomesOfPart 80 = .ok (.iload 6, 2) := by decide +kernel
theorem dX6_addOutcomesOfPart_82 : decode cX6_addOutcomesOfPart 82 = .ok (.aload_n 0, 1) := by decide +kernel
theorem dX6_addOutcomesOfPart_83 : decode cX6_addOutcomesOfPart 83 = .ok (.getfield 41, 3) := by decide +kernel
theorem dX6_addOutcomesOfPart_86 : decode cX6_addOutcomesOfPart 86 = .ok (.iload 6, 2) := by decide +kernel
theorem dX6_addOutcomesOfPart_88 : decode cX6_addOutcomesOfPart 88 = .ok (.iaload, 1) := by decide +kernel
theorem dX6_addOutcomesOfPart_89 : decode cX6_addOutcomesOfPart 89 = .ok (.aload_n 0, 1) := by decide +kernel
theorem dX6_addOutcomesOfPart_90 : decode cX6_addOutcomesOfPart 90 = .ok (.getfield 45, 3) := by decide +kernel
theorem dX6_addOutcomesOfPart_93 : decode cX6_addOutcomesOfPart 93 = .ok (.iload 6, 2) := by decide +kernel
theorem dX6_addOutcomesOfPart_95 : decode cX6_addOutcomesOfPart 95 = .ok (.iload 4, 2) := by decide +kernel
theorem dX6_addOutcomesOfPart_97 : decode cX6_addOutcomesOfPart 97 = .ok (.iand, 1) := by decide +kernel
theorem dX6_addOutcomesOfPart_98 : decode cX6_addOutcomesOfPart 98 = .ok (.iaload, 1) := by decide +kernel
theorem dX6_addOutcomesOfPart_99 : decode cX6_addOutcomesOfPart 99 = .ok (.invokestatic 255, 3) := by decide +kernel
theorem dX6_addOutcomesOfPart_102 : decode cX6_addOutcomesOfPart 102 = .ok (.iastore, 1) := by decide +kernel
theorem dX6_addOutcomesOfPart_103 : decode cX6_addOutcomesOfPart 103 = .ok (.iinc 6 1, 3) := by decide +kernel
theorem dX6_addOutcomesOfPart_106 : decode cX6_addOutcomesOfPart 106 = .ok (.goto (-76), 3) := by decide +kernel
theorem dX6_addOutcomesOfPart_109 : decode cX6_addOutcomesOfPart 109 = .ok (.return_, 1) := by decide +kernel
theorem dX6_verdictOfForm_0 : decode cX6_verdictOfForm 0 = .ok (.iload_n 0, 1) := by decide +kernel
theorem dX6_verdictOfForm_1 : decode cX6_verdictOfForm 1 = .ok (.ifCond .ne 7, 3) := by decide +kernel
theorem dX6_verdictOfForm_4 : decode cX6_verdictOfForm 4 = .ok (.iconst 0, 1) := by decide +kernel
theorem dX6_verdictOfForm_5 : decode cX6_verdictOfForm 5 = .ok (.goto 13, 3) := by decide +kernel
theorem dX6_verdictOfForm_8 : decode cX6_verdictOfForm 8 = .ok (.iload_n 0, 1) := by decide +kernel
theorem dX6_verdictOfForm_9 : decode cX6_verdictOfForm 9 = .ok (.iconst 1, 1) := by decide +kernel
theorem dX6_verdictOfForm_10 : decode cX6_verdictOfForm 10 = .ok (.if_icmp .ne 7, 3) := by decide +kernel
theorem dX6_verdictOfForm_13 : decode cX6_verdictOfForm 13 = .ok (.iconst 1, 1) := by decide +kernel
theorem dX6_verdictOfForm_14 : decode cX6_verdictOfForm 14 = .ok (.goto 4, 3) := by decide +kernel
theorem dX6_verdictOfForm_17 : decode cX6_verdictOfForm 17 = .ok (.iconst 2, 1) := by decide +kernel
theorem dX6_verdictOfForm_18 : decode cX6_verdictOfForm 18 = .ok (.ireturn, 1) := by decide +kernel
theorem dX6_worse_0 : decode cX6_worse 0 = .ok (.iload_n 0, 1) := by decide +kernel
theorem dX6_worse_1 : decode cX6_worse 1 = .ok (.ifCond .eq 7, 3) := by decide +kernel
theorem dX6_worse_4 : decode cX6_worse 4 = .ok (.iload_n 1, 1) := by decide +kernel
theorem dX6_worse_5 : decode cX6_worse 5 = .ok (.ifCond .ne 5, 3) := by decide +kernel
theorem dX6_worse_8 : decode cX6_worse 8 = .ok (.iconst 0, 1) := by decide +kernel
theorem dX6_worse_9 : decode cX6_worse 9 = .ok (.ireturn, 1) := by decide +kernel
theorem dX6_worse_10 : decode cX6_worse 10 = .ok (.iload_n 0, 1) := by decide +kernel
theorem dX6_worse_11 : decode cX6_worse 11 = .ok (.iconst 2, 1) := by decide +kernel
theorem dX6_worse_12 : decode cX6_worse 12 = .ok (.if_icmp .eq 8, 3) := by decide +kernel
theorem dX6_worse_15 : decode cX6_worse 15 = .ok (.iload_n 1, 1) := by decide +kernel
theorem dX6_worse_16 : decode cX6_worse 16 = .ok (.iconst 2, 1) := by decide +kernel
theorem dX6_worse_17 : decode cX6_worse 17 = .ok (.if_icmp .ne 7, 3) := by decide +kernel
theorem dX6_worse_20 : decode cX6_worse 20 = .ok (.iconst 2, 1) := by decide +kernel
theorem dX6_worse_21 : decode cX6_worse 21 = .ok (.goto 4, 3) := by decide +kernel
theorem dX6_worse_24 : decode cX6_worse 24 = .ok (.iconst 1, 1) := by decide +kernel
theorem dX6_worse_25 : decode cX6_worse 25 = .ok (.ireturn, 1) := by decide +kernel
theorem dX7_init_0 : decode cX7_init 0 = .ok (.aload_n 0, 1) := by decide +kernel
theorem dX7_init_1 : decode cX7_init 1 = .ok (.invokespecial 1, 3) := by decide +kernel
theorem dX7_init_4 : decode cX7_init 4 = .ok (.aload_n 0, 1) := by decide +kernel
theorem dX7_init_5 : decode cX7_init 5 = .ok (.sipush 31088, 3) := by decide +kernel
theorem dX7_init_8 : decode cX7_init 8 = .ok (.newarray .int, 2) := by decide +kernel
theorem dX7_init_10 : decode cX7_init 10 = .ok (.putfield 7, 3) := by decide +kernel
theorem dX7_init_13 : decode cX7_init 13 = .ok (.aload_n 0, 1) := by decide +kernel
theorem dX7_init_14 : decode cX7_init 14 = .ok (.ldc 13, 2) := by decide +kernel
theorem dX7_init_16 : decode cX7_init 16 = .ok (.newarray .int, 2) := by decide +kernel
theorem dX7_init_18 : decode cX7_init 18 = .ok (.putfield 14, 3) := by decide +kernel
theorem dX7_init_21 : decode cX7_init 21 = .ok (.aload_n 0, 1) := by decide +kernel
theorem dX7_init_22 : decode cX7_init 22 = .ok (.sipush 31088, 3) := by decide +kernel
theorem dX7_init_25 : decode cX7_init 25 = .ok (.newarray .int, 2) := by decide +kernel
theorem dX7_init_27 : decode cX7_init 27 = .ok (.putfield 17, 3) := by decide +kernel
theorem dX7_init_30 : decode cX7_init 30 = .ok (.aload_n 0, 1) := by decide +kernel
theorem dX7_init_31 : decode cX7_init 31 = .ok (.sipush 8000, 3) := by decide +kernel
theorem dX7_init_34 : decode cX7_init 34 = .ok (.newarray .int, 2) := by decide +kernel
theorem dX7_init_36 : decode cX7_init 36 = .ok (.putfield 20, 3) := by decide +kernel
theorem dX7_init_39 : decode cX7_init 39 = .ok (.aload_n 0, 1) := by decide +kernel
theorem dX7_init_40 : decode cX7_init 40 = .ok (.sipush 8000, 3) := by decide +kernel
theorem dX7_init_43 : decode cX7_init 43 = .ok (.newarray .int, 2) := by decide +kernel
theorem dX7_init_45 : decode cX7_init 45 = .ok (.putfield 23, 3) := by decide +kernel
theorem dX7_init_48 : decode cX7_init 48 = .ok (.aload_n 0, 1) := by decide +kernel
theorem dX7_init_49 : decode cX7_init 49 = .ok (.sipush 8000, 3) := by decide +kernel
theorem dX7_init_52 : decode cX7_init 52 = .ok (.newarray .int, 2) := by decide +kernel
theorem dX7_init_54 : decode cX7_init 54 = .ok (.putfield 26, 3) := by decide +kernel
theorem dX7_init_57 : decode cX7_init 57 = .ok (.aload_n 0, 1) := by decide +kernel
theorem dX7_init_58 : decode cX7_init 58 = .ok (.sipush 8000, 3) := by decide +kernel
theorem dX7_init_61 : decode cX7_init 61 = .ok (.newarray .int, 2) := by decide +kernel
theorem dX7_init_63 : decode cX7_init 63 = .ok (.putfield 29, 3) := by decide +kernel
theorem dX7_init_66 : decode cX7_init 66 = .ok (.aload_n 0, 1) := by decide +kernel
theorem dX7_init_67 : decode cX7_init 67 = .ok (.sipush 8000, 3) := by decide +kernel
theorem dX7_init_70 : decode cX7_init 70 = .ok (.newarray .int, 2) := by decide +kernel
theorem dX7_init_72 : decode cX7_init 72 = .ok (.putfield 32, 3) := by decide +kernel
theorem dX7_init_75 : decode cX7_init 75 = .ok (.aload_n 0, 1) := by decide +kernel
theorem dX7_init_76 : decode cX7_init 76 = .ok (.sipush 8000, 3) := by decide +kernel
theorem dX7_init_79 : decode cX7_init 79 = .ok (.newarray .int, 2) := by decide +kernel
theorem dX7_init_81 : decode cX7_init 81 = .ok (.putfield 35, 3) := by decide +kernel
theorem dX7_init_84 : decode cX7_init 84 = .ok (.aload_n 0, 1) := by decide +kernel
theorem dX7_init_85 : decode cX7_init 85 = .ok (.sipush 8000, 3) := by decide +kernel
theorem dX7_init_88 : decode cX7_init 88 = .ok (.newarray .boolean, 2) := by decide +kernel
theorem dX7_init_90 : decode cX7_init 90 = .ok (.putfield 38, 3) := by decide +kernel
theorem dX7_init_93 : decode cX7_init 93 = .ok (.aload_n 0, 1) := by decide +kernel
theorem dX7_init_94 : decode cX7_init 94 = .ok (.ldc 42, 2) := by decide +kernel
theorem dX7_init_96 : decode cX7_init 96 = .ok (.newarray .int, 2) := by decide +kernel
theorem dX7_init_98 : decode cX7_init 98 = .ok (.putfield 43, 3) := by decide +kernel
theorem dX7_init_101 : decode cX7_init 101 = .ok (.aload_n 0, 1) := by decide +kernel
theorem dX7_init_102 : decode cX7_init 102 = .ok (.sipush 4000, 3) := by decide +kernel
theorem dX7_init_105 : decode cX7_init 105 = .ok (.newarray .int, 2) := by decide +kernel
theorem dX7_init_107 : decode cX7_init 107 = .ok (.putfield 46, 3) := by decide +kernel
theorem dX7_init_110 : decode cX7_init 110 = .ok (.aload_n 0, 1) := by decide +kernel
theorem dX7_init_111 : decode cX7_init 111 = .ok (.bipush 64, 2) := by decide +kernel
theorem dX7_init_113 : decode cX7_init 113 = .ok (.newarray .int, 2) := by decide +kernel
theorem dX7_init_115 : decode cX7_init 115 = .ok (.putfield 49, 3) := by decide +kernel
theorem dX7_init_118 : decode cX7_init 118 = .ok (.aload_n 0, 1) := by decide +kernel
theorem dX7_init_119 : decode cX7_init 119 = .ok (.bipush 80, 2) := by decide +kernel
theorem dX7_init_121 : decode cX7_init 121 = .ok (.newarray .char, 2) := by decide +kernel
theorem dX7_init_123 : decode cX7_init 123 = .ok (.putfield 52, 3) := by decide +kernel
theorem dX7_init_126 : decode cX7_init 126 = .ok (.aload_n 0, 1) := by decide +kernel
theorem dX7_init_127 : decode cX7_init 127 = .ok (.bipush 16, 2) := by decide +kernel
theorem dX7_init_129 : decode cX7_init 129 = .ok (.newarray .int, 2) := by decide +kernel
theorem dX7_init_131 : decode cX7_init 131 = .ok (.putfield 56, 3) := by decide +kernel
theorem dX7_init_134 : decode cX7_init 134 = .ok (.aload_n 0, 1) := by decide +kernel
theorem dX7_init_135 : decode cX7_init 135 = .ok (.bipush 60, 2) := by decide +kernel
theorem dX7_init_137 : decode cX7_init 137 = .ok (.newarray .char, 2) := by decide +kernel
theorem dX7_init_139 : decode cX7_init 139 = .ok (.putfield 59, 3) := by decide +kernel
theorem dX7_init_142 : decode cX7_init 142 = .ok (.aload_n 0, 1) := by decide +kernel
theorem dX7_init_143 : decode cX7_init 143 = .ok (.invokevirtual 62, 3) := by decide +kernel
theorem dX7_init_146 : decode cX7_init 146 = .ok (.return_, 1) := by decide +kernel
theorem dX7_in_0 : decode cX7_in 0 = .ok (.iload_n 0, 1) := by decide +kernel
theorem dX7_in_1 : decode cX7_in 1 = .ok (.iload_n 1, 1) := by decide +kernel
theorem dX7_in_2 : decode cX7_in 2 = .ok (.if_icmp .lt 12, 3) := by decide +kernel
theorem dX7_in_5 : decode cX7_in 5 = .ok (.iload_n 0, 1) := by decide +kernel
theorem dX7_in_6 : decode cX7_in 6 = .ok (.iload_n 2, 1) := by decide +kernel
theorem dX7_in_7 : decode cX7_in 7 = .ok (.if_icmp .gt 7, 3) := by decide +kernel
theorem dX7_in_10 : decode cX7_in 10 = .ok (.iconst 1, 1) := by decide +kernel
theorem dX7_in_11 : decode cX7_in 11 = .ok (.goto 4, 3) := by decide +kernel
theorem dX7_in_14 : decode cX7_in 14 = .ok (.iconst 0, 1) := by decide +kernel
theorem dX7_in_15 : decode cX7_in 15 = .ok (.ireturn, 1) := by decide +kernel
theorem dX7_record_0 : decode cX7_record 0 = .ok (.aload_n 0, 1) := by decide +kernel
theorem dX7_record_1 : decode cX7_record 1 = .ok (.getfield 65, 3) := by decide +kernel
theorem dX7_record_4 : decode cX7_record 4 = .ok (.iconst 4, 1) := by decide +kernel
theorem dX7_record_5 : decode cX7_record 5 = .ok (.if_icmp .ne 43, 3) := by decide +kernel
theorem dX7_record_8 : decode cX7_record 8 = .ok (.iconst 0, 1) := by decide +kernel
theorem dX7_record_9 : decode cX7_record 9 = .ok (.istore_n 1, 1) := by decide +kernel
theorem dX7_record_10 : decode cX7_record 10 = .ok (.iload_n 1, 1) := by decide +kernel
theorem dX7_record_11 : decode cX7_record 11 = .ok (.ldc 69, 2) := by decide +kernel
theorem dX7_record_13 : decode cX7_record 13 = .ok (.if_icmp .ge 25, 3) := by decide +kernel
theorem dX7_record_16 : decode cX7_record 16 = .ok (.aload_n 0, 1) := by decide +kernel
theorem dX7_record_17 : decode cX7_record 17 = .ok (.getfield 14, 3) := by decide +kernel
theorem dX7_record_20 : decode cX7_record 20 = .ok (.iload_n 1, 1) := by decide +kernel
theorem dX7_record_21 : decode cX7_record 21 = .ok (.aload_n 0, 1) := by decide +kernel
theorem dX7_record_22 : decode cX7_record 22 = .ok (.getfield 14, 3) := by decide +kernel
theorem dX7_record_25 : decode cX7_record 25 = .ok (.sipush 31088, 3) := by decide +kernel
theorem dX7_record_28 : decode cX7_record 28 = .ok (.iload_n 1, 1) := by decide +kernel
theorem dX7_record_29 : decode cX7_record 29 = .ok (.iadd, 1) := by decide +kernel
theorem dX7_record_30 : decode cX7_record 30 = .ok (.iaload, 1) := by decide +kernel
theorem dX7_record_31 : decode cX7_record 31 = .ok (.iastore, 1) := by decide +kernel
theorem dX7_record_32 : decode cX7_record 32 = .ok (.iinc 1 1, 3) := by decide +kernel
theorem dX7_record_35 : decode cX7_record 35 = .ok (.goto (-25), 3) := by decide +kernel
theorem dX7_record_38 : decode cX7_record 38 = .ok (.aload_n 0, 1) := by decide +kernel
theorem dX7_record_39 : decode cX7_record 39 = .ok (.dup, 1) := by decide +kernel
theorem dX7_record_40 : decode cX7_record 40 = .ok (.getfield 65, 3) := by decide +kernel
theorem dX7_record_43 : decode cX7_record 43 = .ok (.iconst 1, 1) := by decide +kernel
theorem dX7_record_44 : decode cX7_record 44 = .ok (.isub, 1) := by decide +kernel
theorem dX7_record_45 : decode cX7_record 45 = .ok (.putfield 65, 3) := by decide +kernel
theorem dX7_record_48 : decode cX7_record 48 = .ok (.iconst 0, 1) := by decide +kernel
theorem dX7_record_49 : decode cX7_record 49 = .ok (.istore_n 1, 1) := by decide +kernel
theorem dX7_record_50 : decode cX7_record 50 = .ok (.iload_n 1, 1) := by decide +kernel
theorem dX7_record_51 : decode cX7_record 51 = .ok (.sipush 31088, 3) := by decide +kernel
theorem dX7_record_54 : decode cX7_record 54 = .ok (.if_icmp .ge 30, 3) := by decide +kernel
theorem dX7_record_57 : decode cX7_record 57 = .ok (.aload_n 0, 1) := by decide +kernel
theorem dX7_record_58 : decode cX7_record 58 = .ok (.getfield 14, 3) := by decide +kernel
theorem dX7_record_61 : decode cX7_record 61 = .ok (.sipush 31088, 3) := by decide +kernel
theorem dX7_record_64 : decode cX7_record 64 = .ok (.aload_n 0, 1) := by decide +kernel
theorem dX7_record_65 : decode cX7_record 65 = .ok (.getfield 65, 3) := by decide +kernel
theorem dX7_record_68 : decode cX7_record 68 = .ok (.imul, 1) := by decide +kernel
theorem dX7_record_69 : decode cX7_record 69 = .ok (.iload_n 1, 1) := by decide +kernel
theorem dX7_record_70 : decode cX7_record 70 = .ok (.iadd, 1) := by decide +kernel
theorem dX7_record_71 : decode cX7_record 71 = .ok (.aload_n 0, 1) := by decide +kernel
theorem dX7_record_72 : decode cX7_record 72 = .ok (.getfield 7, 3) := by decide +kernel
theorem dX7_record_75 : decode cX7_record 75 = .ok (.iload_n 1, 1) := by decide +kernel
theorem dX7_record_76 : decode cX7_record 76 = .ok (.iaload, 1) := by decide +kernel
theorem dX7_record_77 : decode cX7_record 77 = .ok (.iastore, 1) := by decide +kernel
theorem dX7_record_78 : decode cX7_record 78 = .ok (.iinc 1 1, 3) := by decide +kernel
theorem dX7_record_81 : decode cX7_record 81 = .ok (.goto (-31), 3) := by decide +kernel
theorem dX7_record_84 : decode cX7_record 84 = .ok (.aload_n 0, 1) := by decide +kernel
theorem dX7_record_85 : decode cX7_record 85 = .ok (.dup, 1) := by decide +kernel
theorem dX7_record_86 : decode cX7_record 86 = .ok (.getfield 65, 3) := by decide +kernel
theorem dX7_record_89 : decode cX7_record 89 = .ok (.iconst 1, 1) := by decide +kernel
theorem dX7_record_90 : decode cX7_record 90 = .ok (.iadd, 1) := by decide +kernel
theorem dX7_record_91 : decode cX7_record 91 = .ok (.putfield 65, 3) := by decide +kernel
theorem dX7_record_94 : decode cX7_record 94 = .ok (.return_, 1) := by decide +kernel
theorem dX7_w_0 : decode cX7_w 0 = .ok (.bipush 48, 2) := by decide +kernel
theorem dX7_w_2 : decode cX7_w 2 = .ok (.bipush 8, 2) := by decide +kernel
theorem dX7_w_4 : decode cX7_w 4 = .ok (.iload_n 0, 1) := by decide +kernel
theorem dX7_w_5 : decode cX7_w 5 = .ok (.imul, 1) := by decide +kernel
theorem dX7_w_6 : decode cX7_w 6 = .ok (.iadd, 1) := by decide +kernel
theorem dX7_w_7 : decode cX7_w 7 = .ok (.ireturn, 1) := by decide +kernel
theorem dX7_cell_0 : decode cX7_cell 0 = .ok (.bipush 112, 2) := by decide +kernel
theorem dX7_cell_2 : decode cX7_cell 2 = .ok (.sipush 484, 3) := by decide +kernel
theorem dX7_cell_5 : decode cX7_cell 5 = .ok (.bipush 8, 2) := by decide +kernel
theorem dX7_cell_7 : decode cX7_cell 7 = .ok (.iload_n 0, 1) := by decide +kernel
theorem dX7_cell_8 : decode cX7_cell 8 = .ok (.imul, 1) := by decide +kernel
theorem dX7_cell_9 : decode cX7_cell 9 = .ok (.iload_n 1, 1) := by decide +kernel
theorem dX7_cell_10 : decode cX7_cell 10 = .ok (.iadd, 1) := by decide +kernel
theorem dX7_cell_11 : decode cX7_cell 11 = .ok (.imul, 1) := by decide +kernel
theorem dX7_cell_12 : decode cX7_cell 12 = .ok (.iadd, 1) := by decide +kernel
theorem dX7_cell_13 : decode cX7_cell 13 = .ok (.iload_n 2, 1) := by decide +kernel
theorem dX7_cell_14 : decode cX7_cell 14 = .ok (.iadd, 1) := by decide +kernel
theorem dX7_cell_15 : decode cX7_cell 15 = .ok (.ireturn, 1) := by decide +kernel
theorem dX7_isThere_0 : decode cX7_isThere 0 = .ok (.iload_n 1, 1) := by decide +kernel
theorem dX7_isThere_1 : decode cX7_isThere 1 = .ok (.iconst 0, 1) := by decide +kernel
theorem dX7_isThere_2 : decode cX7_isThere 2 = .ok (.aload_n 0, 1) := by decide +kernel
theorem dX7_isThere_3 : decode cX7_isThere 3 = .ok (.getfield 7, 3) := by decide +kernel
theorem dX7_isThere_6 : decode cX7_isThere 6 = .ok (.iconst 2, 1) := by decide +kernel
theorem dX7_isThere_7 : decode cX7_isThere 7 = .ok (.iaload, 1) := by decide +kernel
theorem dX7_isThere_8 : decode cX7_isThere 8 = .ok (.iconst 1, 1) := by decide +kernel
theorem dX7_isThere_9 : decode cX7_isThere 9 = .ok (.isub, 1) := by decide +kernel
theorem dX7_isThere_10 : decode cX7_isThere 10 = .ok (.invokestatic 70, 3) := by decide +kernel
theorem dX7_isThere_13 : decode cX7_isThere 13 = .ok (.ifCond .eq 22, 3) := by decide +kernel
theorem dX7_isThere_16 : decode cX7_isThere 16 = .ok (.aload_n 0, 1) := by decide +kernel
theorem dX7_isThere_17 : decode cX7_isThere 17 = .ok (.getfield 7, 3) := by decide +kernel
theorem dX7_isThere_20 : decode cX7_isThere 20 = .ok (.iload_n 1, 1) := by decide +kernel
theorem dX7_isThere_21 : decode cX7_isThere 21 = .ok (.invokestatic 74, 3) := by decide +kernel
theorem dX7_isThere_24 : decode cX7_isThere 24 = .ok (.iconst 0, 1) := by decide +kernel
theorem dX7_isThere_25 : decode cX7_isThere 25 = .ok (.iadd, 1) := by decide +kernel
theorem dX7_isThere_26 : decode cX7_isThere 26 = .ok (.iaload, 1) := by decide +kernel
theorem dX7_isThere_27 : decode cX7_isThere 27 = .ok (.iconst 1, 1) := by decide +kernel
theorem dX7_isThere_28 : decode cX7_isThere 28 = .ok (.if_icmp .ne 7, 3) := by decide +kernel
theorem dX7_isThere_31 : decode cX7_isThere 31 = .ok (.iconst 1, 1) := by decide +kernel
theorem dX7_isThere_32 : decode cX7_isThere 32 = .ok (.goto 4, 3) := by decide +kernel
theorem dX7_isThere_35 : decode cX7_isThere 35 = .ok (.iconst 0, 1) := by decide +kernel
theorem dX7_isThere_36 : decode cX7_isThere 36 = .ok (.ireturn, 1) := by decide +kernel
theorem dX7_verdict_0 : decode cX7_verdict 0 = .ok (.aload_n 0, 1) := by decide +kernel
theorem dX7_verdict_1 : decode cX7_verdict 1 = .ok (.getfield 7, 3) := by decide +kernel
theorem dX7_verdict_4 : decode cX7_verdict 4 = .ok (.iload_n 1, 1) := by decide +kernel
theorem dX7_verdict_5 : decode cX7_verdict 5 = .ok (.invokestatic 74, 3) := by decide +kernel
theorem dX7_verdict_8 : decode cX7_verdict 8 = .ok (.iconst 1, 1) := by decide +kernel
theorem dX7_verdict_9 : decode cX7_verdict 9 = .ok (.iadd, 1) := by decide +kernel
theorem dX7_verdict_10 : decode cX7_verdict 10 = .ok (.iaload, 1) := by decide +kernel
theorem dX7_verdict_11 : decode cX7_verdict 11 = .ok (.ireturn, 1) := by decide +kernel
theorem dX7_empty_0 : decode cX7_empty 0 = .ok (.aload_n 0, 1) := by decide +kernel
theorem dX7_empty_1 : decode cX7_empty 1 = .ok (.bipush 16, 2) := by decide +kernel
theorem dX7_empty_3 : decode cX7_empty 3 = .ok (.putfield 78, 3) := by decide +kernel
theorem dX7_empty_6 : decode cX7_empty 6 = .ok (.aload_n 0, 1) := by decide +kernel
theorem dX7_empty_7 : decode cX7_empty 7 = .ok (.iconst 0, 1) := by decide +kernel
theorem dX7_empty_8 : decode cX7_empty 8 = .ok (.putfield 81, 3) := by decide +kernel
theorem dX7_empty_11 : decode cX7_empty 11 = .ok (.iconst 0, 1) := by decide +kernel
theorem dX7_empty_12 : decode cX7_empty 12 = .ok (.istore_n 1, 1) := by decide +kernel
theorem dX7_empty_13 : decode cX7_empty 13 = .ok (.iload_n 1, 1) := by decide +kernel
theorem dX7_empty_14 : decode cX7_empty 14 = .ok (.bipush 16, 2) := by decide +kernel
theorem dX7_empty_16 : decode cX7_empty 16 = .ok (.if_icmp .ge 40, 3) := by decide +kernel
theorem dX7_empty_19 : decode cX7_empty 19 = .ok (.aload_n 0, 1) := by decide +kernel
theorem dX7_empty_20 : decode cX7_empty 20 = .ok (.getfield 20, 3) := by decide +kernel
theorem dX7_empty_23 : decode cX7_empty 23 = .ok (.iload_n 1, 1) := by decide +kernel
theorem dX7_empty_24 : decode cX7_empty 24 = .ok (.iconst 0, 1) := by decide +kernel
theorem dX7_empty_25 : decode cX7_empty 25 = .ok (.iastore, 1) := by decide +kernel
theorem dX7_empty_26 : decode cX7_empty 26 = .ok (.aload_n 0, 1) := by decide +kernel
theorem dX7_empty_27 : decode cX7_empty 27 = .ok (.getfield 29, 3) := by decide +kernel
theorem dX7_empty_30 : decode cX7_empty 30 = .ok (.iload_n 1, 1) := by decide +kernel
theorem dX7_empty_31 : decode cX7_empty 31 = .ok (.iconst 1, 1) := by decide +kernel
theorem dX7_empty_32 : decode cX7_empty 32 = .ok (.iastore, 1) := by decide +kernel
theorem dX7_empty_33 : decode cX7_empty 33 = .ok (.aload_n 0, 1) := by decide +kernel
theorem dX7_empty_34 : decode cX7_empty 34 = .ok (.getfield 32, 3) := by decide +kernel
theorem dX7_empty_37 : decode cX7_empty 37 = .ok (.iload_n 1, 1) := by decide +kernel
theorem dX7_empty_38 : decode cX7_empty 38 = .ok (.iload_n 1, 1) := by decide +kernel
theorem dX7_empty_39 : decode cX7_empty 39 = .ok (.bipush 10, 2) := by decide +kernel
theorem dX7_empty_41 : decode cX7_empty 41 = .ok (.if_icmp .lt 7, 3) := by decide +kernel
theorem dX7_empty_44 : decode cX7_empty 44 = .ok (.iconst 2, 1) := by decide +kernel
theorem dX7_empty_45 : decode cX7_empty 45 = .ok (.goto 4, 3) := by decide +kernel
theorem dX7_empty_48 : decode cX7_empty 48 = .ok (.iconst 1, 1) := by decide +kernel
theorem dX7_empty_49 : decode cX7_empty 49 = .ok (.iastore, 1) := by decide +kernel
theorem dX7_empty_50 : decode cX7_empty 50 = .ok (.iinc 1 1, 3) := by decide +kernel
theorem dX7_empty_53 : decode cX7_empty 53 = .ok (.goto (-40), 3) := by decide +kernel
theorem dX7_empty_56 : decode cX7_empty 56 = .ok (.return_, 1) := by decide +kernel
theorem dX7_childMany_0 : decode cX7_childMany 0 = .ok (.iload_n 1, 1) := by decide +kernel
theorem dX7_childMany_1 : decode cX7_childMany 1 = .ok (.bipush 16, 2) := by decide +kernel
theorem dX7_childMany_3 : decode cX7_childMany 3 = .ok (.if_icmp .ge 7, 3) := by decide +kernel
theorem dX7_childMany_6 : decode cX7_childMany 6 = .ok (.iconst 0, 1) := by decide +kernel
theorem dX7_childMany_7 : decode cX7_childMany 7 = .ok (.goto 37, 3) := by decide +kernel
theorem dX7_childMany_10 : decode cX7_childMany 10 = .ok (.aload_n 0, 1) := by decide +kernel
theorem dX7_childMany_11 : decode cX7_childMany 11 = .ok (.getfield 20, 3) := by decide +kernel
theorem dX7_childMany_14 : decode cX7_childMany 14 = .ok (.iload_n 1, 1) := by decide +kernel
theorem dX7_childMany_15 : decode cX7_childMany 15 = .ok (.iaload, 1) := by decide +kernel
theorem dX7_childMany_16 : decode cX7_childMany 16 = .ok (.iconst 3, 1) := by decide +kernel
theorem dX7_childMany_17 : decode cX7_childMany 17 = .ok (.if_icmp .ge 7, 3) := by decide +kernel
theorem dX7_childMany_20 : decode cX7_childMany 20 = .ok (.iconst 1, 1) := by decide +kernel
theorem dX7_childMany_21 : decode cX7_childMany 21 = .ok (.goto 23, 3) := by decide +kernel
theorem dX7_childMany_24 : decode cX7_childMany 24 = .ok (.aload_n 0, 1) := by decide +kernel
theorem dX7_childMany_25 : decode cX7_childMany 25 = .ok (.getfield 20, 3) := by decide +kernel
theorem dX7_childMany_28 : decode cX7_childMany 28 = .ok (.iload_n 1, 1) := by decide +kernel
theorem dX7_childMany_29 : decode cX7_childMany 29 = .ok (.iaload, 1) := by decide +kernel
theorem dX7_childMany_30 : decode cX7_childMany 30 = .ok (.iconst 5, 1) := by decide +kernel
theorem dX7_childMany_31 : decode cX7_childMany 31 = .ok (.if_icmp .ge 7, 3) := by decide +kernel
theorem dX7_childMany_34 : decode cX7_childMany 34 = .ok (.iconst 2, 1) := by decide +kernel
theorem dX7_childMany_35 : decode cX7_childMany 35 = .ok (.goto 9, 3) := by decide +kernel
theorem dX7_childMany_38 : decode cX7_childMany 38 = .ok (.aload_n 0, 1) := by decide +kernel
theorem dX7_childMany_39 : decode cX7_childMany 39 = .ok (.getfield 26, 3) := by decide +kernel
theorem dX7_childMany_42 : decode cX7_childMany 42 = .ok (.iload_n 1, 1) := by decide +kernel
theorem dX7_childMany_43 : decode cX7_childMany 43 = .ok (.iaload, 1) := by decide +kernel
theorem dX7_childMany_44 : decode cX7_childMany 44 = .ok (.ireturn, 1) := by decide +kernel
theorem dX7_child_0 : decode cX7_child 0 = .ok (.aload_n 0, 1) := by decide +kernel
theorem dX7_child_1 : decode cX7_child 1 = .ok (.getfield 20, 3) := by decide +kernel
theorem dX7_child_4 : decode cX7_child 4 = .ok (.iload_n 1, 1) := by decide +kernel
theorem dX7_child_5 : decode cX7_child 5 = .ok (.iaload, 1) := by decide +kernel
theorem dX7_child_6 : decode cX7_child 6 = .ok (.iconst 5, 1) := by decide +kernel
theorem dX7_child_7 : decode cX7_child 7 = .ok (.if_icmp .lt 19, 3) := by decide +kernel
theorem dX7_child_10 : decode cX7_child 10 = .ok (.aload_n 0, 1) := by decide +kernel
theorem dX7_child_11 : decode cX7_child 11 = .ok (.getfield 43, 3) := by decide +kernel
theorem dX7_child_14 : decode cX7_child 14 = .ok (.aload_n 0, 1) := by decide +kernel
theorem dX7_child_15 : decode cX7_child 15 = .ok (.getfield 23, 3) := by decide +kernel
theorem dX7_child_18 : decode cX7_child 18 = .ok (.iload_n 1, 1) := by decide +kernel
theorem dX7_child_19 : decode cX7_child 19 = .ok (.iaload, 1) := by decide +kernel
theorem dX7_child_20 : decode cX7_child 20 = .ok (.iload_n 2, 1) := by decide +kernel
theorem dX7_child_21 : decode cX7_child 21 = .ok (.iadd, 1) := by decide +kernel
theorem dX7_child_22 : decode cX7_child 22 = .ok (.iaload, 1) := by decide +kernel
theorem dX7_child_23 : decode cX7_child 23 = .ok (.goto 22, 3) := by decide +kernel
theorem dX7_child_26 : decode cX7_child 26 = .ok (.iload_n 2, 1) := by decide +kernel
theorem dX7_child_27 : decode cX7_child 27 = .ok (.ifCond .ne 12, 3) := by decide +kernel
theorem dX7_child_30 : decode cX7_child 30 = .ok (.aload_n 0, 1) := by decide +kernel
theorem dX7_child_31 : decode cX7_child 31 = .ok (.getfield 23, 3) := by decide +kernel
theorem dX7_child_34 : decode cX7_child 34 = .ok (.iload_n 1, 1) := by decide +kernel
theorem dX7_child_35 : decode cX7_child 35 = .ok (.iaload, 1) := by decide +kernel
theorem dX7_child_36 : decode cX7_child 36 = .ok (.goto 9, 3) := by decide +kernel
theorem dX7_child_39 : decode cX7_child 39 = .ok (.aload_n 0, 1) := by decide +kernel
theorem dX7_child_40 : decode cX7_child 40 = .ok (.getfield 26, 3) := by decide +kernel
theorem dX7_child_43 : decode cX7_child 43 = .ok (.iload_n 1, 1) := by decide +kernel
theorem dX7_child_44 : decode cX7_child 44 = .ok (.iaload, 1) := by decide +kernel
theorem dX7_child_45 : decode cX7_child 45 = .ok (.ireturn, 1) := by decide +kernel
theorem dX7_make_0 : decode cX7_make 0 = .ok (.bipush 16, 2) := by decide +kernel
theorem dX7_make_2 : decode cX7_make 2 = .ok (.istore 4, 2) := by decide +kernel
theorem dX7_make_4 : decode cX7_make 4 = .ok (.iload 4, 2) := by decide +kernel
theorem dX7_make_6 : decode cX7_make 6 = .ok (.aload_n 0, 1) := by decide +kernel
theorem dX7_make_7 : decode cX7_make 7 = .ok (.getfield 78, 3) := by decide +kernel
theorem dX7_make_10 : decode cX7_make 10 = .ok (.if_icmp .ge 45, 3) := by decide +kernel
theorem dX7_make_13 : decode cX7_make 13 = .ok (.aload_n 0, 1) := by decide +kernel
theorem dX7_make_14 : decode cX7_make 14 = .ok (.getfield 20, 3) := by decide +kernel
theorem dX7_make_17 : decode cX7_make 17 = .ok (.iload 4, 2) := by decide +kernel
theorem dX7_make_19 : decode cX7_make 19 = .ok (.iaload, 1) := by decide +kernel
theorem dX7_make_20 : decode cX7_make 20 = .ok (.iload_n 1, 1) := by decide +kernel
theorem dX7_make_21 : decode cX7_make 21 = .ok (.if_icmp .ne 28, 3) := by decide +kernel
theorem dX7_make_24 : decode cX7_make 24 = .ok (.aload_n 0, 1) := by decide +kernel
theorem dX7_make_25 : decode cX7_make 25 = .ok (.getfield 23, 3) := by decide +kernel
theorem dX7_make_28 : decode cX7_make 28 = .ok (.iload 4, 2) := by decide +kernel
theorem dX7_make_30 : decode cX7_make 30 = .ok (.iaload, 1) := by decide +kernel
theorem dX7_make_31 : decode cX7_make 31 = .ok (.iload_n 2, 1) := by decide +kernel
theorem dX7_make_32 : decode cX7_make 32 = .ok (.if_icmp .ne 17, 3) := by decide +kernel
theorem dX7_make_35 : decode cX7_make 35 = .ok (.aload_n 0, 1) := by decide +kernel
theorem dX7_make_36 : decode cX7_make 36 = .ok (.getfield 26, 3) := by decide +kernel
theorem dX7_make_39 : decode cX7_make 39 = .ok (.iload 4, 2) := by decide +kernel
theorem dX7_make_41 : decode cX7_make 41 = .ok (.iaload, 1) := by decide +kernel
theorem dX7_make_42 : decode cX7_make 42 = .ok (.iload_n 3, 1) := by decide +kernel
theorem dX7_make_43 : decode cX7_make 43 = .ok (.if_icmp .ne 6, 3) := by decide +kernel
theorem dX7_make_46 : decode cX7_make 46 = .ok (.iload 4, 2) := by decide +kernel
theorem dX7_make_48 : decode cX7_make 48 = .ok (.ireturn, 1) := by decide +kernel
theorem dX7_make_49 : decode cX7_make 49 = .ok (.iinc 4 1, 3) := by decide +kernel
theorem dX7_make_52 : decode cX7_make 52 = .ok (.goto (-48), 3) := by decide +kernel
theorem dX7_make_55 : decode cX7_make 55 = .ok (.aload_n 0, 1) := by decide +kernel
theorem dX7_make_56 : decode cX7_make 56 = .ok (.getfield 20, 3) := by decide +kernel
theorem dX7_make_59 : decode cX7_make 59 = .ok (.aload_n 0, 1) := by decide +kernel
theorem dX7_make_60 : decode cX7_make 60 = .ok (.getfield 78, 3) := by decide +kernel
theorem dX7_make_63 : decode cX7_make 63 = .ok (.iload_n 1, 1) := by decide +kernel
theorem dX7_make_64 : decode cX7_make 64 = .ok (.iastore, 1) := by decide +kernel
theorem dX7_make_65 : decode cX7_make 65 = .ok (.aload_n 0, 1) := by decide +kernel
theorem dX7_make_66 : decode cX7_make 66 = .ok (.getfield 23, 3) := by decide +kernel
theorem dX7_make_69 : decode cX7_make 69 = .ok (.aload_n 0, 1) := by decide +kernel
theorem dX7_make_70 : decode cX7_make 70 = .ok (.getfield 78, 3) := by decide +kernel
theorem dX7_make_73 : decode cX7_make 73 = .ok (.iload_n 2, 1) := by decide +kernel
theorem dX7_make_74 : decode cX7_make 74 = .ok (.iastore, 1) := by decide +kernel
theorem dX7_make_75 : decode cX7_make 75 = .ok (.aload_n 0, 1) := by decide +kernel
theorem dX7_make_76 : decode cX7_make 76 = .ok (.getfield 26, 3) := by decide +kernel
theorem dX7_make_79 : decode cX7_make 79 = .ok (.aload_n 0, 1) := by decide +kernel
theorem dX7_make_80 : decode cX7_make 80 = .ok (.getfield 78, 3) := by decide +kernel
theorem dX7_make_83 : decode cX7_make 83 = .ok (.iload_n 3, 1) := by decide +kernel
theorem dX7_make_84 : decode cX7_make 84 = .ok (.iastore, 1) := by decide +kernel
theorem dX7_make_85 : decode cX7_make 85 = .ok (.aload_n 0, 1) := by decide +kernel
theorem dX7_make_86 : decode cX7_make 86 = .ok (.getfield 29, 3) := by decide +kernel
theorem dX7_make_89 : decode cX7_make 89 = .ok (.aload_n 0, 1) := by decide +kernel
theorem dX7_make_90 : decode cX7_make 90 = .ok (.getfield 78, 3) := by decide +kernel
theorem dX7_make_93 : decode cX7_make 93 = .ok (.iconst 1, 1) := by decide +kernel
theorem dX7_make_94 : decode cX7_make 94 = .ok (.aload_n 0, 1) := by decide +kernel
theorem dX7_make_95 : decode cX7_make 95 = .ok (.getfield 29, 3) := by decide +kernel
theorem dX7_make_98 : decode cX7_make 98 = .ok (.iload_n 2, 1) := by decide +kernel
theorem dX7_make_99 : decode cX7_make 99 = .ok (.iaload, 1) := by decide +kernel
theorem dX7_make_100 : decode cX7_make 100 = .ok (.iadd, 1) := by decide +kernel
theorem dX7_make_101 : decode cX7_make 101 = .ok (.iload_n 1, 1) := by decide +kernel
theorem dX7_make_102 : decode cX7_make 102 = .ok (.iconst 3, 1) := by decide +kernel
theorem dX7_make_103 : decode cX7_make 103 = .ok (.if_icmp .ge 7, 3) := by decide +kernel
theorem dX7_make_106 : decode cX7_make 106 = .ok (.iconst 0, 1) := by decide +kernel
theorem dX7_make_107 : decode cX7_make 107 = .ok (.goto 9, 3) := by decide +kernel
theorem dX7_make_110 : decode cX7_make 110 = .ok (.aload_n 0, 1) := by decide +kernel
theorem dX7_make_111 : decode cX7_make 111 = .ok (.getfield 29, 3) := by decide +kernel
theorem dX7_make_114 : decode cX7_make 114 = .ok (.iload_n 3, 1) := by decide +kernel
theorem dX7_make_115 : decode cX7_make 115 = .ok (.iaload, 1) := by decide +kernel
theorem dX7_make_116 : decode cX7_make 116 = .ok (.iadd, 1) := by decide +kernel
theorem dX7_make_117 : decode cX7_make 117 = .ok (.iastore, 1) := by decide +kernel
theorem dX7_make_118 : decode cX7_make 118 = .ok (.aload_n 0, 1) := by decide +kernel
theorem dX7_make_119 : decode cX7_make 119 = .ok (.getfield 32, 3) := by decide +kernel
theorem dX7_make_122 : decode cX7_make 122 = .ok (.aload_n 0, 1) := by decide +kernel
theorem dX7_make_123 : decode cX7_make 123 = .ok (.getfield 78, 3) := by decide +kernel
theorem dX7_make_126 : decode cX7_make 126 = .ok (.iload_n 1, 1) := by decide +kernel
theorem dX7_make_127 : decode cX7_make 127 = .ok (.iconst 3, 1) := by decide +kernel
theorem dX7_make_128 : decode cX7_make 128 = .ok (.if_icmp .ge 14, 3) := by decide +kernel
theorem dX7_make_131 : decode cX7_make 131 = .ok (.iconst 1, 1) := by decide +kernel
theorem dX7_make_132 : decode cX7_make 132 = .ok (.aload_n 0, 1) := by decide +kernel
theorem dX7_make_133 : decode cX7_make 133 = .ok (.getfield 32, 3) := by decide +kernel
theorem dX7_make_136 : decode cX7_make 136 = .ok (.iload_n 2, 1) := by decide +kernel
theorem dX7_make_137 : decode cX7_make 137 = .ok (.iaload, 1) := by decide +kernel
theorem dX7_make_138 : decode cX7_make 138 = .ok (.iadd, 1) := by decide +kernel
theorem dX7_make_139 : decode cX7_make 139 = .ok (.goto 18, 3) := by decide +kernel
theorem dX7_make_142 : decode cX7_make 142 = .ok (.iconst 3, 1) := by decide +kernel
theorem dX7_make_143 : decode cX7_make 143 = .ok (.aload_n 0, 1) := by decide +kernel
theorem dX7_make_144 : decode cX7_make 144 = .ok (.getfield 32, 3) := by decide +kernel
theorem dX7_make_147 : decode cX7_make 147 = .ok (.iload_n 2, 1) := by decide +kernel
theorem dX7_make_148 : decode cX7_make 148 = .ok (.iaload, 1) := by decide +kernel
theorem dX7_make_149 : decode cX7_make 149 = .ok (.iadd, 1) := by decide +kernel
theorem dX7_make_150 : decode cX7_make 150 = .ok (.aload_n 0, 1) := by decide +kernel
theorem dX7_make_151 : decode cX7_make 151 = .ok (.getfield 32, 3) := by decide +kernel
theorem dX7_make_154 : decode cX7_make 154 = .ok (.iload_n 3, 1) := by decide +kernel
theorem dX7_make_155 : decode cX7_make 155 = .ok (.iaload, 1) := by decide +kernel
theorem dX7_make_156 : decode cX7_make 156 = .ok (.iadd, 1) := by decide +kernel
theorem dX7_make_157 : decode cX7_make 157 = .ok (.iastore, 1) := by decide +kernel
theorem dX7_make_158 : decode cX7_make 158 = .ok (.aload_n 0, 1) := by decide +kernel
theorem dX7_make_159 : decode cX7_make 159 = .ok (.dup, 1) := by decide +kernel
theorem dX7_make_160 : decode cX7_make 160 = .ok (.getfield 78, 3) := by decide +kernel
theorem dX7_make_163 : decode cX7_make 163 = .ok (.iconst 1, 1) := by decide +kernel
theorem dX7_make_164 : decode cX7_make 164 = .ok (.iadd, 1) := by decide +kernel
theorem dX7_make_165 : decode cX7_make 165 = .ok (.putfield 78, 3) := by decide +kernel
theorem dX7_make_168 : decode cX7_make 168 = .ok (.aload_n 0, 1) := by decide +kernel
theorem dX7_make_169 : decode cX7_make 169 = .ok (.getfield 78, 3) := by decide +kernel
theorem dX7_make_172 : decode cX7_make 172 = .ok (.iconst 1, 1) := by decide +kernel
theorem dX7_make_173 : decode cX7_make 173 = .ok (.isub, 1) := by decide +kernel
theorem dX7_make_174 : decode cX7_make 174 = .ok (.ireturn, 1) := by decide +kernel
theorem dX7_isList_0 : decode cX7_isList 0 = .ok (.aload_n 0, 1) := by decide +kernel
theorem dX7_isList_1 : decode cX7_isList 1 = .ok (.getfield 20, 3) := by decide +kernel
theorem dX7_isList_4 : decode cX7_isList 4 = .ok (.iload_n 1, 1) := by decide +kernel
theorem dX7_isList_5 : decode cX7_isList 5 = .ok (.iaload, 1) := by decide +kernel
theorem dX7_isList_6 : decode cX7_isList 6 = .ok (.iload_n 2, 1) := by decide +kernel
theorem dX7_isList_7 : decode cX7_isList 7 = .ok (.if_icmp .ne 20, 3) := by decide +kernel
theorem dX7_isList_10 : decode cX7_isList 10 = .ok (.aload_n 0, 1) := by decide +kernel
theorem dX7_isList_11 : decode cX7_isList 11 = .ok (.getfield 26, 3) := by decide +kernel
theorem dX7_isList_14 : decode cX7_isList 14 = .ok (.iload_n 1, 1) := by decide +kernel
theorem dX7_isList_15 : decode cX7_isList 15 = .ok (.iaload, 1) := by decide +kernel
theorem dX7_isList_16 : decode cX7_isList 16 = .ok (.aload_n 0, 1) := by decide +kernel
theorem dX7_isList_17 : decode cX7_isList 17 = .ok (.getfield 84, 3) := by decide +kernel
theorem dX7_isList_20 : decode cX7_isList 20 = .ok (.if_icmp .ne 7, 3) := by decide +kernel
theorem dX7_isList_23 : decode cX7_isList 23 = .ok (.iconst 1, 1) := by decide +kernel
theorem dX7_isList_24 : decode cX7_isList 24 = .ok (.goto 4, 3) := by decide +kernel
theorem dX7_isList_27 : decode cX7_isList 27 = .ok (.iconst 0, 1) := by decide +kernel
theorem dX7_isList_28 : decode cX7_isList 28 = .ok (.istore_n 3, 1) := by decide +kernel
theorem dX7_isList_29 : decode cX7_isList 29 = .ok (.iconst 0, 1) := by decide +kernel
theorem dX7_isList_30 : decode cX7_isList 30 = .ok (.istore 4, 2) := by decide +kernel
theorem dX7_isList_32 : decode cX7_isList 32 = .ok (.iload 4, 2) := by decide +kernel
theorem dX7_isList_34 : decode cX7_isList 34 = .ok (.aload_n 0, 1) := by decide +kernel
theorem dX7_isList_35 : decode cX7_isList 35 = .ok (.getfield 84, 3) := by decide +kernel
theorem dX7_isList_38 : decode cX7_isList 38 = .ok (.if_icmp .ge 43, 3) := by decide +kernel
theorem dX7_isList_41 : decode cX7_isList 41 = .ok (.iload_n 3, 1) := by decide +kernel
theorem dX7_isList_42 : decode cX7_isList 42 = .ok (.ifCond .eq 39, 3) := by decide +kernel
theorem dX7_isList_45 : decode cX7_isList 45 = .ok (.aload_n 0, 1) := by decide +kernel
theorem dX7_isList_46 : decode cX7_isList 46 = .ok (.getfield 43, 3) := by decide +kernel
theorem dX7_isList_49 : decode cX7_isList 49 = .ok (.aload_n 0, 1) := by decide +kernel
theorem dX7_isList_50 : decode cX7_isList 50 = .ok (.getfield 23, 3) := by decide +kernel
theorem dX7_isList_53 : decode cX7_isList 53 = .ok (.iload_n 1, 1) := by decide +kernel
theorem dX7_isList_54 : decode cX7_isList 54 = .ok (.iaload, 1) := by decide +kernel
theorem dX7_isList_55 : decode cX7_isList 55 = .ok (.iload 4, 2) := by decide +kernel
theorem dX7_isList_57 : decode cX7_isList 57 = .ok (.iadd, 1) := by decide +kernel
theorem dX7_isList_58 : decode cX7_isList 58 = .ok (.iaload, 1) := by decide +kernel
theorem dX7_isList_59 : decode cX7_isList 59 = .ok (.aload_n 0, 1) := by decide +kernel
theorem dX7_isList_60 : decode cX7_isList 60 = .ok (.getfield 46, 3) := by decide +kernel
theorem dX7_isList_63 : decode cX7_isList 63 = .ok (.iload 4, 2) := by decide +kernel
theorem dX7_isList_65 : decode cX7_isList 65 = .ok (.iaload, 1) := by decide +kernel
theorem dX7_isList_66 : decode cX7_isList 66 = .ok (.if_icmp .ne 7, 3) := by decide +kernel
theorem dX7_isList_69 : decode cX7_isList 69 = .ok (.iconst 1, 1) := by decide +kernel
theorem dX7_isList_70 : decode cX7_isList 70 = .ok (.goto 4, 3) := by decide +kernel
theorem dX7_isList_73 : decode cX7_isList 73 = .ok (.iconst 0, 1) := by decide +kernel
theorem dX7_isList_74 : decode cX7_isList 74 = .ok (.istore_n 3, 1) := by decide +kernel
theorem dX7_isList_75 : decode cX7_isList 75 = .ok (.iinc 4 1, 3) := by decide +kernel
theorem dX7_isList_78 : decode cX7_isList 78 = .ok (.goto (-46), 3) := by decide +kernel
theorem dX7_isList_81 : decode cX7_isList 81 = .ok (.iload_n 3, 1) := by decide +kernel
theorem dX7_isList_82 : decode cX7_isList 82 = .ok (.ireturn, 1) := by decide +kernel
theorem dX7_makeList_0 : decode cX7_makeList 0 = .ok (.bipush 16, 2) := by decide +kernel
theorem dX7_makeList_2 : decode cX7_makeList 2 = .ok (.istore_n 2, 1) := by decide +kernel
theorem dX7_makeList_3 : decode cX7_makeList 3 = .ok (.iload_n 2, 1) := by decide +kernel
theorem dX7_makeList_4 : decode cX7_makeList 4 = .ok (.aload_n 0, 1) := by decide +kernel
theorem dX7_makeList_5 : decode cX7_makeList 5 = .ok (.getfield 78, 3) := by decide +kernel
theorem dX7_makeList_8 : decode cX7_makeList 8 = .ok (.if_icmp .ge 20, 3) := by decide +kernel
theorem dX7_makeList_11 : decode cX7_makeList 11 = .ok (.aload_n 0, 1) := by decide +kernel
theorem dX7_makeList_12 : decode cX7_makeList 12 = .ok (.iload_n 2, 1) := by decide +kernel
theorem dX7_makeList_13 : decode cX7_makeList 13 = .ok (.iload_n 1, 1) := by decide +kernel
theorem dX7_makeList_14 : decode cX7_makeList 14 = .ok (.invokevirtual 87, 3) := by decide +kernel
theorem dX7_makeList_17 : decode cX7_makeList 17 = .ok (.ifCond .eq 5, 3) := by decide +kernel
theorem dX7_makeList_20 : decode cX7_makeList 20 = .ok (.iload_n 2, 1) := by decide +kernel
theorem dX7_makeList_21 : decode cX7_makeList 21 = .ok (.ireturn, 1) := by decide +kernel
theorem dX7_makeList_22 : decode cX7_makeList 22 = .ok (.iinc 2 1, 3) := by decide +kernel
theorem dX7_makeList_25 : decode cX7_makeList 25 = .ok (.goto (-22), 3) := by decide +kernel
theorem dX7_makeList_28 : decode cX7_makeList 28 = .ok (.aload_n 0, 1) := by decide +kernel
theorem dX7_makeList_29 : decode cX7_makeList 29 = .ok (.getfield 20, 3) := by decide +kernel
theorem dX7_makeList_32 : decode cX7_makeList 32 = .ok (.aload_n 0, 1) := by decide +kernel
theorem dX7_makeList_33 : decode cX7_makeList 33 = .ok (.getfield 78, 3) := by decide +kernel
theorem dX7_makeList_36 : decode cX7_makeList 36 = .ok (.iload_n 1, 1) := by decide +kernel
theorem dX7_makeList_37 : decode cX7_makeList 37 = .ok (.iastore, 1) := by decide +kernel
theorem dX7_makeList_38 : decode cX7_makeList 38 = .ok (.aload_n 0, 1) := by decide +kernel
theorem dX7_makeList_39 : decode cX7_makeList 39 = .ok (.getfield 23, 3) := by decide +kernel
theorem dX7_makeList_42 : decode cX7_makeList 42 = .ok (.aload_n 0, 1) := by decide +kernel
theorem dX7_makeList_43 : decode cX7_makeList 43 = .ok (.getfield 78, 3) := by decide +kernel
theorem dX7_makeList_46 : decode cX7_makeList 46 = .ok (.aload_n 0, 1) := by decide +kernel
theorem dX7_makeList_47 : decode cX7_makeList 47 = .ok (.getfield 81, 3) := by decide +kernel
theorem dX7_makeList_50 : decode cX7_makeList 50 = .ok (.iastore, 1) := by decide +kernel
theorem dX7_makeList_51 : decode cX7_makeList 51 = .ok (.aload_n 0, 1) := by decide +kernel
theorem dX7_makeList_52 : decode cX7_makeList 52 = .ok (.getfield 26, 3) := by decide +kernel
theorem dX7_makeList_55 : decode cX7_makeList 55 = .ok (.aload_n 0, 1) := by decide +kernel
theorem dX7_makeList_56 : decode cX7_makeList 56 = .ok (.getfield 78, 3) := by decide +kernel
theorem dX7_makeList_59 : decode cX7_makeList 59 = .ok (.aload_n 0, 1) := by decide +kernel
theorem dX7_makeList_60 : decode cX7_makeList 60 = .ok (.getfield 84, 3) := by decide +kernel
theorem dX7_makeList_63 : decode cX7_makeList 63 = .ok (.iastore, 1) := by decide +kernel
theorem dX7_makeList_64 : decode cX7_makeList 64 = .ok (.aload_n 0, 1) := by decide +kernel
theorem dX7_makeList_65 : decode cX7_makeList 65 = .ok (.getfield 29, 3) := by decide +kernel
theorem dX7_makeList_68 : decode cX7_makeList 68 = .ok (.aload_n 0, 1) := by decide +kernel
theorem dX7_makeList_69 : decode cX7_makeList 69 = .ok (.getfield 78, 3) := by decide +kernel
theorem dX7_makeList_72 : decode cX7_makeList 72 = .ok (.iconst 1, 1) := by decide +kernel
theorem dX7_makeList_73 : decode cX7_makeList 73 = .ok (.iastore, 1) := by decide +kernel
theorem dX7_makeList_74 : decode cX7_makeList 74 = .ok (.aload_n 0, 1) := by decide +kernel
theorem dX7_makeList_75 : decode cX7_makeList 75 = .ok (.getfield 32, 3) := by decide +kernel
theorem dX7_makeList_78 : decode cX7_makeList 78 = .ok (.aload_n 0, 1) := by decide +kernel
theorem dX7_makeList_79 : decode cX7_makeList 79 = .ok (.getfield 78, 3) := by decide +kernel
theorem dX7_makeList_82 : decode cX7_makeList 82 = .ok (.iconst 1, 1) := by decide +kernel
theorem dX7_makeList_83 : decode cX7_makeList 83 = .ok (.aload_n 0, 1) := by decide +kernel
theorem dX7_makeList_84 : decode cX7_makeList 84 = .ok (.getfield 84, 3) := by decide +kernel
theorem dX7_makeList_87 : decode cX7_makeList 87 = .ok (.iadd, 1) := by decide +kernel
theorem dX7_makeList_88 : decode cX7_makeList 88 = .ok (.iastore, 1) := by decide +kernel
theorem dX7_makeList_89 : decode cX7_makeList 89 = .ok (.iconst 0, 1) := by decide +kernel
theorem dX7_makeList_90 : decode cX7_makeList 90 = .ok (.istore_n 2, 1) := by decide +kernel
theorem dX7_makeList_91 : decode cX7_makeList 91 = .ok (.iload_n 2, 1) := by decide +kernel
theorem dX7_makeList_92 : decode cX7_makeList 92 = .ok (.aload_n 0, 1) := by decide +kernel
theorem dX7_makeList_93 : decode cX7_makeList 93 = .ok (.getfield 84, 3) := by decide +kernel
theorem dX7_makeList_96 : decode cX7_makeList 96 = .ok (.if_icmp .ge 80, 3) := by decide +kernel
theorem dX7_makeList_99 : decode cX7_makeList 99 = .ok (.aload_n 0, 1) := by decide +kernel
theorem dX7_makeList_100 : decode cX7_makeList 100 = .ok (.getfield 43, 3) := by decide +kernel
theorem dX7_makeList_103 : decode cX7_makeList 103 = .ok (.aload_n 0, 1) := by decide +kernel
theorem dX7_makeList_104 : decode cX7_makeList 104 = .ok (.getfield 81, 3) := by decide +kernel
theorem dX7_makeList_107 : decode cX7_makeList 107 = .ok (.aload_n 0, 1) := by decide +kernel
theorem dX7_makeList_108 : decode cX7_makeList 108 = .ok (.getfield 46, 3) := by decide +kernel
theorem dX7_makeList_111 : decode cX7_makeList 111 = .ok (.iload_n 2, 1) := by decide +kernel
theorem dX7_makeList_112 : decode cX7_makeList 112 = .ok (.iaload, 1) := by decide +kernel
theorem dX7_makeList_113 : decode cX7_makeList 113 = .ok (.iastore, 1) := by decide +kernel
theorem dX7_makeList_114 : decode cX7_makeList 114 = .ok (.aload_n 0, 1) := by decide +kernel
theorem dX7_makeList_115 : decode cX7_makeList 115 = .ok (.dup, 1) := by decide +kernel
theorem dX7_makeList_116 : decode cX7_makeList 116 = .ok (.getfield 81, 3) := by decide +kernel
theorem dX7_makeList_119 : decode cX7_makeList 119 = .ok (.iconst 1, 1) := by decide +kernel
theorem dX7_makeList_120 : decode cX7_makeList 120 = .ok (.iadd, 1) := by decide +kernel
theorem dX7_makeList_121 : decode cX7_makeList 121 = .ok (.putfield 81, 3) := by decide +kernel
theorem dX7_makeList_124 : decode cX7_makeList 124 = .ok (.aload_n 0, 1) := by decide +kernel
theorem dX7_makeList_125 : decode cX7_makeList 125 = .ok (.getfield 29, 3) := by decide +kernel
theorem dX7_makeList_128 : decode cX7_makeList 128 = .ok (.aload_n 0, 1) := by decide +kernel
theorem dX7_makeList_129 : decode cX7_makeList 129 = .ok (.getfield 78, 3) := by decide +kernel
theorem dX7_makeList_132 : decode cX7_makeList 132 = .ok (.dup2, 1) := by decide +kernel
theorem dX7_makeList_133 : decode cX7_makeList 133 = .ok (.iaload, 1) := by decide +kernel
theorem dX7_makeList_134 : decode cX7_makeList 134 = .ok (.aload_n 0, 1) := by decide +kernel
theorem dX7_makeList_135 : decode cX7_makeList 135 = .ok (.getfield 29, 3) := by decide +kernel
theorem dX7_makeList_138 : decode cX7_makeList 138 = .ok (.aload_n 0, 1) := by decide +kernel
theorem dX7_makeList_139 : decode cX7_makeList 139 = .ok (.getfield 46, 3) := by decide +kernel
theorem dX7_makeList_142 : decode cX7_makeList 142 = .ok (.iload_n 2, 1) := by decide +kernel
theorem dX7_makeList_143 : decode cX7_makeList 143 = .ok (.iaload, 1) := by decide +kernel
theorem dX7_makeList_144 : decode cX7_makeList 144 = .ok (.iaload, 1) := by decide +kernel
theorem dX7_makeList_145 : decode cX7_makeList 145 = .ok (.iadd, 1) := by decide +kernel
theorem dX7_makeList_146 : decode cX7_makeList 146 = .ok (.iastore, 1) := by decide +kernel
theorem dX7_makeList_147 : decode cX7_makeList 147 = .ok (.aload_n 0, 1) := by decide +kernel
theorem dX7_makeList_148 : decode cX7_makeList 148 = .ok (.getfield 32, 3) := by decide +kernel
theorem dX7_makeList_151 : decode cX7_makeList 151 = .ok (.aload_n 0, 1) := by decide +kernel
theorem dX7_makeList_152 : decode cX7_makeList 152 = .ok (.getfield 78, 3) := by decide +kernel
theorem dX7_makeList_155 : decode cX7_makeList 155 = .ok (.dup2, 1) := by decide +kernel
theorem dX7_makeList_156 : decode cX7_makeList 156 = .ok (.iaload, 1) := by decide +kernel
theorem dX7_makeList_157 : decode cX7_makeList 157 = .ok (.aload_n 0, 1) := by decide +kernel
theorem dX7_makeList_158 : decode cX7_makeList 158 = .ok (.getfield 32, 3) := by decide +kernel
theorem dX7_makeList_161 : decode cX7_makeList 161 = .ok (.aload_n 0, 1) := by decide +kernel
theorem dX7_makeList_162 : decode cX7_makeList 162 = .ok (.getfield 46, 3) := by decide +kernel
theorem dX7_makeList_165 : decode cX7_makeList 165 = .ok (.iload_n 2, 1) := by decide +kernel
theorem dX7_makeList_166 : decode cX7_makeList 166 = .ok (.iaload, 1) := by decide +kernel
theorem dX7_makeList_167 : decode cX7_makeList 167 = .ok (.iaload, 1) := by decide +kernel
theorem dX7_makeList_168 : decode cX7_makeList 168 = .ok (.iadd, 1) := by decide +kernel
theorem dX7_makeList_169 : decode cX7_makeList 169 = .ok (.iastore, 1) := by decide +kernel
theorem dX7_makeList_170 : decode cX7_makeList 170 = .ok (.iinc 2 1, 3) := by decide +kernel
theorem dX7_makeList_173 : decode cX7_makeList 173 = .ok (.goto (-82), 3) := by decide +kernel
theorem dX7_makeList_176 : decode cX7_makeList 176 = .ok (.aload_n 0, 1) := by decide +kernel
theorem dX7_makeList_177 : decode cX7_makeList 177 = .ok (.dup, 1) := by decide +kernel
theorem dX7_makeList_178 : decode cX7_makeList 178 = .ok (.getfield 78, 3) := by decide +kernel
theorem dX7_makeList_181 : decode cX7_makeList 181 = .ok (.iconst 1, 1) := by decide +kernel
theorem dX7_makeList_182 : decode cX7_makeList 182 = .ok (.iadd, 1) := by decide +kernel
theorem dX7_makeList_183 : decode cX7_makeList 183 = .ok (.putfield 78, 3) := by decide +kernel
theorem dX7_makeList_186 : decode cX7_makeList 186 = .ok (.aload_n 0, 1) := by decide +kernel
theorem dX7_makeList_187 : decode cX7_makeList 187 = .ok (.getfield 78, 3) := by decide +kernel
theorem dX7_makeList_190 : decode cX7_makeList 190 = .ok (.iconst 1, 1) := by decide +kernel
theorem dX7_makeList_191 : decode cX7_makeList 191 = .ok (.isub, 1) := by decide +kernel
theorem dX7_makeList_192 : decode cX7_makeList 192 = .ok (.ireturn, 1) := by decide +kernel
theorem dX7_begins_0 : decode cX7_begins 0 = .ok (.iload_n 1, 1) := by decide +kernel
theorem dX7_begins_1 : decode cX7_begins 1 = .ok (.bipush 16, 2) := by decide +kernel
theorem dX7_begins_3 : decode cX7_begins 3 = .ok (.if_icmp .lt 36, 3) := by decide +kernel
theorem dX7_begins_6 : decode cX7_begins 6 = .ok (.aload_n 0, 1) := by decide +kernel
theorem dX7_begins_7 : decode cX7_begins 7 = .ok (.getfield 20, 3) := by decide +kernel
theorem dX7_begins_10 : decode cX7_begins 10 = .ok (.iload_n 1, 1) := by decide +kernel
theorem dX7_begins_11 : decode cX7_begins 11 = .ok (.iaload, 1) := by decide +kernel
theorem dX7_begins_12 : decode cX7_begins 12 = .ok (.iconst 1, 1) := by decide +kernel
theorem dX7_begins_13 : decode cX7_begins 13 = .ok (.if_icmp .ne 8, 3) := by decide +kernel
theorem dX7_begins_16 : decode cX7_begins 16 = .ok (.bipush 88, 2) := by decide +kernel
theorem dX7_begins_18 : decode cX7_begins 18 = .ok (.goto 20, 3) := by decide +kernel
theorem dX7_begins_21 : decode cX7_begins 21 = .ok (.aload_n 0, 1) := by decide +kernel
theorem dX7_begins_22 : decode cX7_begins 22 = .ok (.getfield 20, 3) := by decide +kernel
theorem dX7_begins_25 : decode cX7_begins 25 = .ok (.iload_n 1, 1) := by decide +kernel
theorem dX7_begins_26 : decode cX7_begins 26 = .ok (.iaload, 1) := by decide +kernel
theorem dX7_begins_27 : decode cX7_begins 27 = .ok (.iconst 2, 1) := by decide +kernel
theorem dX7_begins_28 : decode cX7_begins 28 = .ok (.if_icmp .ne 8, 3) := by decide +kernel
theorem dX7_begins_31 : decode cX7_begins 31 = .ok (.bipush 78, 2) := by decide +kernel
theorem dX7_begins_33 : decode cX7_begins 33 = .ok (.goto 5, 3) := by decide +kernel
theorem dX7_begins_36 : decode cX7_begins 36 = .ok (.bipush 40, 2) := by decide +kernel
theorem dX7_begins_38 : decode cX7_begins 38 = .ok (.ireturn, 1) := by decide +kernel
theorem dX7_begins_39 : decode cX7_begins 39 = .ok (.iload_n 1, 1) := by decide +kernel
theorem dX7_begins_40 : decode cX7_begins 40 = .ok (.iconst 2, 1) := by decide +kernel
theorem dX7_begins_41 : decode cX7_begins 41 = .ok (.if_icmp .ge 10, 3) := by decide +kernel
theorem dX7_begins_44 : decode cX7_begins 44 = .ok (.bipush 48, 2) := by decide +kernel
theorem dX7_begins_46 : decode cX7_begins 46 = .ok (.iload_n 1, 1) := by decide +kernel
theorem dX7_begins_47 : decode cX7_begins 47 = .ok (.iadd, 1) := by decide +kernel
theorem dX7_begins_48 : decode cX7_begins 48 = .ok (.goto 40, 3) := by decide +kernel
theorem dX7_begins_51 : decode cX7_begins 51 = .ok (.iload_n 1, 1) := by decide +kernel
theorem dX7_begins_52 : decode cX7_begins 52 = .ok (.iconst 2, 1) := by decide +kernel
theorem dX7_begins_53 : decode cX7_begins 53 = .ok (.if_icmp .ne 8, 3) := by decide +kernel
theorem dX7_begins_56 : decode cX7_begins 56 = .ok (.bipush 62, 2) := by decide +kernel
theorem dX7_begins_58 : decode cX7_begins 58 = .ok (.goto 30, 3) := by decide +kernel
theorem dX7_begins_61 : decode cX7_begins 61 = .ok (.iload_n 1, 1) := by decide +kernel
theorem dX7_begins_62 : decode cX7_begins 62 = .ok (.iconst 3, 1) := by decide +kernel
theorem dX7_begins_63 : decode cX7_begins 63 = .ok (.if_icmp .ne 8, 3) := by decide +kernel
theorem dX7_begins_66 : decode cX7_begins 66 = .ok (.bipush 46, 2) := by decide +kernel
theorem dX7_begins_68 : decode cX7_begins 68 = .ok (.goto 20, 3) := by decide +kernel
theorem dX7_begins_71 : decode cX7_begins 71 = .ok (.iload_n 1, 1) := by decide +kernel
theorem dX7_begins_72 : decode cX7_begins 72 = .ok (.bipush 10, 2) := by decide +kernel
theorem dX7_begins_74 : decode cX7_begins 74 = .ok (.if_icmp .ge 12, 3) := by decide +kernel
theorem dX7_begins_77 : decode cX7_begins 77 = .ok (.bipush 97, 2) := by decide +kernel
theorem dX7_begins_79 : decode cX7_begins 79 = .ok (.iload_n 1, 1) := by decide +kernel
theorem dX7_begins_80 : decode cX7_begins 80 = .ok (.iadd, 1) := by decide +kernel
theorem dX7_begins_81 : decode cX7_begins 81 = .ok (.iconst 4, 1) := by decide +kernel
theorem dX7_begins_82 : decode cX7_begins 82 = .ok (.isub, 1) := by decide +kernel
theorem dX7_begins_83 : decode cX7_begins 83 = .ok (.goto 5, 3) := by decide +kernel
theorem dX7_begins_86 : decode cX7_begins 86 = .ok (.bipush 45, 2) := by decide +kernel
theorem dX7_begins_88 : decode cX7_begins 88 = .ok (.ireturn, 1) := by decide +kernel
theorem dX7_behind_0 : decode cX7_behind 0 = .ok (.iload_n 2, 1) := by decide +kernel
theorem dX7_behind_1 : decode cX7_behind 1 = .ok (.aload_n 0, 1) := by decide +kernel
theorem dX7_behind_2 : decode cX7_behind 2 = .ok (.iload_n 1, 1) := by decide +kernel
theorem dX7_behind_3 : decode cX7_behind 3 = .ok (.invokevirtual 91, 3) := by decide +kernel
theorem dX7_behind_6 : decode cX7_behind 6 = .ok (.iconst 1, 1) := by decide +kernel
theorem dX7_behind_7 : decode cX7_behind 7 = .ok (.isub, 1) := by decide +kernel
theorem dX7_behind_8 : decode cX7_behind 8 = .ok (.if_icmp .ne 6, 3) := by decide +kernel
theorem dX7_behind_11 : decode cX7_behind 11 = .ok (.bipush 41, 2) := by decide +kernel
theorem dX7_behind_13 : decode cX7_behind 13 = .ok (.ireturn, 1) := by decide +kernel
theorem dX7_behind_14 : decode cX7_behind 14 = .ok (.aload_n 0, 1) := by decide +kernel
theorem dX7_behind_15 : decode cX7_behind 15 = .ok (.getfield 20, 3) := by decide +kernel
theorem dX7_behind_18 : decode cX7_behind 18 = .ok (.iload_n 1, 1) := by decide +kernel
theorem dX7_behind_19 : decode cX7_behind 19 = .ok (.iaload, 1) := by decide +kernel
theorem dX7_behind_20 : decode cX7_behind 20 = .ok (.iconst 3, 1) := by decide +kernel
theorem dX7_behind_21 : decode cX7_behind 21 = .ok (.if_icmp .ne 8, 3) := by decide +kernel
theorem dX7_behind_24 : decode cX7_behind 24 = .ok (.bipush 85, 2) := by decide +kernel
theorem dX7_behind_26 : decode cX7_behind 26 = .ok (.goto 35, 3) := by decide +kernel
theorem dX7_behind_29 : decode cX7_behind 29 = .ok (.aload_n 0, 1) := by decide +kernel
theorem dX7_behind_30 : decode cX7_behind 30 = .ok (.getfield 20, 3) := by decide +kernel
theorem dX7_behind_33 : decode cX7_behind 33 = .ok (.iload_n 1, 1) := by decide +kernel
theorem dX7_behind_34 : decode cX7_behind 34 = .ok (.iaload, 1) := by decide +kernel
theorem dX7_behind_35 : decode cX7_behind 35 = .ok (.iconst 4, 1) := by decide +kernel
theorem dX7_behind_36 : decode cX7_behind 36 = .ok (.if_icmp .ne 8, 3) := by decide +kernel
theorem dX7_behind_39 : decode cX7_behind 39 = .ok (.bipush 82, 2) := by decide +kernel
theorem dX7_behind_41 : decode cX7_behind 41 = .ok (.goto 20, 3) := by decide +kernel
theorem dX7_behind_44 : decode cX7_behind 44 = .ok (.aload_n 0, 1) := by decide +kernel
theorem dX7_behind_45 : decode cX7_behind 45 = .ok (.getfield 20, 3) := by decide +kernel
theorem dX7_behind_48 : decode cX7_behind 48 = .ok (.iload_n 1, 1) := by decide +kernel
theorem dX7_behind_49 : decode cX7_behind 49 = .ok (.iaload, 1) := by decide +kernel
theorem dX7_behind_50 : decode cX7_behind 50 = .ok (.iconst 5, 1) := by decide +kernel
theorem dX7_behind_51 : decode cX7_behind 51 = .ok (.if_icmp .ne 8, 3) := by decide +kernel
theorem dX7_behind_54 : decode cX7_behind 54 = .ok (.bipush 38, 2) := by decide +kernel
theorem dX7_behind_56 : decode cX7_behind 56 = .ok (.goto 5, 3) := by decide +kernel
theorem dX7_behind_59 : decode cX7_behind 59 = .ok (.bipush 124, 2) := by decide +kernel
theorem dX7_behind_61 : decode cX7_behind 61 = .ok (.ireturn, 1) := by decide +kernel
theorem dX7_isAhead_0 : decode cX7_isAhead 0 = .ok (.iload_n 1, 1) := by decide +kernel
theorem dX7_isAhead_1 : decode cX7_isAhead 1 = .ok (.istore_n 3, 1) := by decide +kernel
theorem dX7_isAhead_2 : decode cX7_isAhead 2 = .ok (.iload_n 2, 1) := by decide +kernel
theorem dX7_isAhead_3 : decode cX7_isAhead 3 = .ok (.istore 4, 2) := by decide +kernel
theorem dX7_isAhead_5 : decode cX7_isAhead 5 = .ok (.aload_n 0, 1) := by decide +kernel
theorem dX7_isAhead_6 : decode cX7_isAhead 6 = .ok (.iload_n 3, 1) := by decide +kernel
theorem dX7_isAhead_7 : decode cX7_isAhead 7 = .ok (.invokevirtual 94, 3) := by decide +kernel
theorem dX7_isAhead_10 : decode cX7_isAhead 10 = .ok (.aload_n 0, 1) := by decide +kernel
theorem dX7_isAhead_11 : decode cX7_isAhead 11 = .ok (.iload 4, 2) := by decide +kernel
theorem dX7_isAhead_13 : decode cX7_isAhead 13 = .ok (.invokevirtual 94, 3) := by decide +kernel
theorem dX7_isAhead_16 : decode cX7_isAhead 16 = .ok (.if_icmp .ne 131, 3) := by decide +kernel
theorem dX7_isAhead_19 : decode cX7_isAhead 19 = .ok (.iload_n 3, 1) := by decide +kernel
theorem dX7_isAhead_20 : decode cX7_isAhead 20 = .ok (.bipush 16, 2) := by decide +kernel
theorem dX7_isAhead_22 : decode cX7_isAhead 22 = .ok (.if_icmp .lt 125, 3) := by decide +kernel
theorem dX7_isAhead_25 : decode cX7_isAhead 25 = .ok (.iconst 0, 1) := by decide +kernel
theorem dX7_isAhead_26 : decode cX7_isAhead 26 = .ok (.istore 5, 2) := by decide +kernel
theorem dX7_isAhead_28 : decode cX7_isAhead 28 = .ok (.aload_n 0, 1) := by decide +kernel
theorem dX7_isAhead_29 : decode cX7_isAhead 29 = .ok (.iload_n 3, 1) := by decide +kernel
theorem dX7_isAhead_30 : decode cX7_isAhead 30 = .ok (.iload 5, 2) := by decide +kernel
theorem dX7_isAhead_32 : decode cX7_isAhead 32 = .ok (.invokevirtual 97, 3) := by decide +kernel
theorem dX7_isAhead_35 : decode cX7_isAhead 35 = .ok (.aload_n 0, 1) := by decide +kernel
theorem dX7_isAhead_36 : decode cX7_isAhead 36 = .ok (.iload 4, 2) := by decide +kernel
theorem dX7_isAhead_38 : decode cX7_isAhead 38 = .ok (.iload 5, 2) := by decide +kernel
theorem dX7_isAhead_40 : decode cX7_isAhead 40 = .ok (.invokevirtual 97, 3) := by decide +kernel
theorem dX7_isAhead_43 : decode cX7_isAhead 43 = .ok (.if_icmp .ne 37, 3) := by decide +kernel
theorem dX7_isAhead_46 : decode cX7_isAhead 46 = .ok (.aload_n 0, 1) := by decide +kernel
theorem dX7_isAhead_47 : decode cX7_isAhead 47 = .ok (.iload_n 3, 1) := by decide +kernel
theorem dX7_isAhead_48 : decode cX7_isAhead 48 = .ok (.invokevirtual 94, 3) := by decide +kernel
theorem dX7_isAhead_51 : decode cX7_isAhead 51 = .ok (.bipush 40, 2) := by decide +kernel
theorem dX7_isAhead_53 : decode cX7_isAhead 53 = .ok (.if_icmp .ne 27, 3) := by decide +kernel
theorem dX7_isAhead_56 : decode cX7_isAhead 56 = .ok (.aload_n 0, 1) := by decide +kernel
theorem dX7_isAhead_57 : decode cX7_isAhead 57 = .ok (.iload_n 3, 1) := by decide +kernel
theorem dX7_isAhead_58 : decode cX7_isAhead 58 = .ok (.iload 5, 2) := by decide +kernel
theorem dX7_isAhead_60 : decode cX7_isAhead 60 = .ok (.invokevirtual 101, 3) := by decide +kernel
theorem dX7_isAhead_63 : decode cX7_isAhead 63 = .ok (.aload_n 0, 1) := by decide +kernel
theorem dX7_isAhead_64 : decode cX7_isAhead 64 = .ok (.iload 4, 2) := by decide +kernel
theorem dX7_isAhead_66 : decode cX7_isAhead 66 = .ok (.iload 5, 2) := by decide +kernel
theorem dX7_isAhead_68 : decode cX7_isAhead 68 = .ok (.invokevirtual 101, 3) := by decide +kernel
theorem dX7_isAhead_71 : decode cX7_isAhead 71 = .ok (.if_icmp .ne 9, 3) := by decide +kernel
theorem dX7_isAhead_74 : decode cX7_isAhead 74 = .ok (.iinc 5 1, 3) := by decide +kernel
theorem dX7_isAhead_77 : decode cX7_isAhead 77 = .ok (.goto (-49), 3) := by decide +kernel
theorem dX7_isAhead_80 : decode cX7_isAhead 80 = .ok (.aload_n 0, 1) := by decide +kernel
theorem dX7_isAhead_81 : decode cX7_isAhead 81 = .ok (.iload_n 3, 1) := by decide +kernel
theorem dX7_isAhead_82 : decode cX7_isAhead 82 = .ok (.iload 5, 2) := by decide +kernel
theorem dX7_isAhead_84 : decode cX7_isAhead 84 = .ok (.invokevirtual 97, 3) := by decide +kernel
theorem dX7_isAhead_87 : decode cX7_isAhead 87 = .ok (.aload_n 0, 1) := by decide +kernel
theorem dX7_isAhead_88 : decode cX7_isAhead 88 = .ok (.iload 4, 2) := by decide +kernel
theorem dX7_isAhead_90 : decode cX7_isAhead 90 = .ok (.iload 5, 2) := by decide +kernel
theorem dX7_isAhead_92 : decode cX7_isAhead 92 = .ok (.invokevirtual 97, 3) := by decide +kernel
theorem dX7_isAhead_95 : decode cX7_isAhead 95 = .ok (.if_icmp .ne 27, 3) := by decide +kernel
theorem dX7_isAhead_98 : decode cX7_isAhead 98 = .ok (.aload_n 0, 1) := by decide +kernel
theorem dX7_isAhead_99 : decode cX7_isAhead 99 = .ok (.iload_n 3, 1) := by decide +kernel
theorem dX7_isAhead_100 : decode cX7_isAhead 100 = .ok (.iload 5, 2) := by decide +kernel
theorem dX7_isAhead_102 : decode cX7_isAhead 102 = .ok (.invokevirtual 101, 3) := by decide +kernel
theorem dX7_isAhead_105 : decode cX7_isAhead 105 = .ok (.aload_n 0, 1) := by decide +kernel
theorem dX7_isAhead_106 : decode cX7_isAhead 106 = .ok (.iload 4, 2) := by decide +kernel
theorem dX7_isAhead_108 : decode cX7_isAhead 108 = .ok (.iload 5, 2) := by decide +kernel
theorem dX7_isAhead_110 : decode cX7_isAhead 110 = .ok (.invokevirtual 101, 3) := by decide +kernel
theorem dX7_isAhead_113 : decode cX7_isAhead 113 = .ok (.if_icmp .ge 7, 3) := by decide +kernel
theorem dX7_isAhead_116 : decode cX7_isAhead 116 = .ok (.iconst 1, 1) := by decide +kernel
theorem dX7_isAhead_117 : decode cX7_isAhead 117 = .ok (.goto 4, 3) := by decide +kernel
theorem dX7_isAhead_120 : decode cX7_isAhead 120 = .ok (.iconst 0, 1) := by decide +kernel
theorem dX7_isAhead_121 : decode cX7_isAhead 121 = .ok (.ireturn, 1) := by decide +kernel
theorem dX7_isAhead_122 : decode cX7_isAhead 122 = .ok (.aload_n 0, 1) := by decide +kernel
theorem dX7_isAhead_123 : decode cX7_isAhead 123 = .ok (.iload_n 3, 1) := by decide +kernel
theorem dX7_isAhead_124 : decode cX7_isAhead 124 = .ok (.iload 5, 2) := by decide +kernel
theorem dX7_isAhead_126 : decode cX7_isAhead 126 = .ok (.invokevirtual 97, 3) := by decide +kernel
theorem dX7_isAhead_129 : decode cX7_isAhead 129 = .ok (.istore 6, 2) := by decide +kernel
theorem dX7_isAhead_131 : decode cX7_isAhead 131 = .ok (.aload_n 0, 1) := by decide +kernel
theorem dX7_isAhead_132 : decode cX7_isAhead 132 = .ok (.iload 4, 2) := by decide +kernel
theorem dX7_isAhead_134 : decode cX7_isAhead 134 = .ok (.iload 5, 2) := by decide +kernel
theorem dX7_isAhead_136 : decode cX7_isAhead 136 = .ok (.invokevirtual 97, 3) := by decide +kernel
theorem dX7_isAhead_139 : decode cX7_isAhead 139 = .ok (.istore 4, 2) := by decide +kernel
theorem dX7_isAhead_141 : decode cX7_isAhead 141 = .ok (.iload 6, 2) := by decide +kernel
theorem dX7_isAhead_143 : decode cX7_isAhead 143 = .ok (.istore_n 3, 1) := by decide +kernel
theorem dX7_isAhead_144 : decode cX7_isAhead 144 = .ok (.goto (-139), 3) := by decide +kernel
theorem dX7_isAhead_147 : decode cX7_isAhead 147 = .ok (.aload_n 0, 1) := by decide +kernel
theorem dX7_isAhead_148 : decode cX7_isAhead 148 = .ok (.iload_n 3, 1) := by decide +kernel
theorem dX7_isAhead_149 : decode cX7_isAhead 149 = .ok (.invokevirtual 94, 3) := by decide +kernel
theorem dX7_isAhead_152 : decode cX7_isAhead 152 = .ok (.aload_n 0, 1) := by decide +kernel
theorem dX7_isAhead_153 : decode cX7_isAhead 153 = .ok (.iload 4, 2) := by decide +kernel
theorem dX7_isAhead_155 : decode cX7_isAhead 155 = .ok (.invokevirtual 94, 3) := by decide +kernel
theorem dX7_isAhead_158 : decode cX7_isAhead 158 = .ok (.if_icmp .ne 17, 3) := by decide +kernel
theorem dX7_isAhead_161 : decode cX7_isAhead 161 = .ok (.iload_n 3, 1) := by decide +kernel
theorem dX7_isAhead_162 : decode cX7_isAhead 162 = .ok (.iload 4, 2) := by decide +kernel
theorem dX7_isAhead_164 : decode cX7_isAhead 164 = .ok (.if_icmp .ge 7, 3) := by decide +kernel
theorem dX7_isAhead_167 : decode cX7_isAhead 167 = .ok (.iconst 1, 1) := by decide +kernel
theorem dX7_isAhead_168 : decode cX7_isAhead 168 = .ok (.goto 26, 3) := by decide +kernel
theorem dX7_isAhead_171 : decode cX7_isAhead 171 = .ok (.iconst 0, 1) := by decide +kernel
theorem dX7_isAhead_172 : decode cX7_isAhead 172 = .ok (.goto 22, 3) := by decide +kernel
theorem dX7_isAhead_175 : decode cX7_isAhead 175 = .ok (.aload_n 0, 1) := by decide +kernel
theorem dX7_isAhead_176 : decode cX7_isAhead 176 = .ok (.iload_n 3, 1) := by decide +kernel
theorem dX7_isAhead_177 : decode cX7_isAhead 177 = .ok (.invokevirtual 94, 3) := by decide +kernel
theorem dX7_isAhead_180 : decode cX7_isAhead 180 = .ok (.aload_n 0, 1) := by decide +kernel
theorem dX7_isAhead_181 : decode cX7_isAhead 181 = .ok (.iload 4, 2) := by decide +kernel
theorem dX7_isAhead_183 : decode cX7_isAhead 183 = .ok (.invokevirtual 94, 3) := by decide +kernel
theorem dX7_isAhead_186 : decode cX7_isAhead 186 = .ok (.if_icmp .ge 7, 3) := by decide +kernel
theorem dX7_isAhead_189 : decode cX7_isAhead 189 = .ok (.iconst 1, 1) := by decide +kernel
theorem dX7_isAhead_190 : decode cX7_isAhead 190 = .ok (.goto 4, 3) := by decide +kernel
theorem dX7_isAhead_193 : decode cX7_isAhead 193 = .ok (.iconst 0, 1) := by decide +kernel
theorem dX7_isAhead_194 : decode cX7_isAhead 194 = .ok (.ireturn, 1) := by decide +kernel
theorem dX7_beginPut_0 : decode cX7_beginPut 0 = .ok (.aload_n 0, 1) := by decide +kernel
theorem dX7_beginPut_1 : decode cX7_beginPut 1 = .ok (.iconst 0, 1) := by decide +kernel
theorem dX7_beginPut_2 : decode cX7_beginPut 2 = .ok (.putfield 84, 3) := by decide +kernel
theorem dX7_beginPut_5 : decode cX7_beginPut 5 = .ok (.aload_n 0, 1) := by decide +kernel
theorem dX7_beginPut_6 : decode cX7_beginPut 6 = .ok (.iconst 0, 1) := by decide +kernel
theorem dX7_beginPut_7 : decode cX7_beginPut 7 = .ok (.putfield 104, 3) := by decide +kernel
theorem dX7_beginPut_10 : decode cX7_beginPut 10 = .ok (.return_, 1) := by decide +kernel
theorem dX7_counter_0 : decode cX7_counter 0 = .ok (.iload_n 0, 1) := by decide +kernel
theorem dX7_counter_1 : decode cX7_counter 1 = .ok (.iconst 2, 1) := by decide +kernel
theorem dX7_counter_2 : decode cX7_counter 2 = .ok (.if_icmp .ne 7, 3) := by decide +kernel
theorem dX7_counter_5 : decode cX7_counter 5 = .ok (.iconst 3, 1) := by decide +kernel
theorem dX7_counter_6 : decode cX7_counter 6 = .ok (.goto 50, 3) := by decide +kernel
theorem dX7_counter_9 : decode cX7_counter 9 = .ok (.iload_n 0, 1) := by decide +kernel
theorem dX7_counter_10 : decode cX7_counter 10 = .ok (.iconst 3, 1) := by decide +kernel
theorem dX7_counter_11 : decode cX7_counter 11 = .ok (.if_icmp .ne 7, 3) := by decide +kernel
theorem dX7_counter_14 : decode cX7_counter 14 = .ok (.iconst 2, 1) := by decide +kernel
theorem dX7_counter_15 : decode cX7_counter 15 = .ok (.goto 41, 3) := by decide +kernel
theorem dX7_counter_18 : decode cX7_counter 18 = .ok (.iload_n 0, 1) := by decide +kernel
theorem dX7_counter_19 : decode cX7_counter 19 = .ok (.iconst 4, 1) := by decide +kernel
theorem dX7_counter_20 : decode cX7_counter 20 = .ok (.if_icmp .lt 16, 3) := by decide +kernel
theorem dX7_counter_23 : decode cX7_counter 23 = .ok (.iload_n 0, 1) := by decide +kernel
theorem dX7_counter_24 : decode cX7_counter 24 = .ok (.bipush 10, 2) := by decide +kernel
theorem dX7_counter_26 : decode cX7_counter 26 = .ok (.if_icmp .ge 10, 3) := by decide +kernel
theorem dX7_counter_29 : decode cX7_counter 29 = .ok (.iload_n 0, 1) := by decide +kernel
theorem dX7_counter_30 : decode cX7_counter 30 = .ok (.bipush 6, 2) := by decide +kernel
theorem dX7_counter_32 : decode cX7_counter 32 = .ok (.iadd, 1) := by decide +kernel
theorem dX7_counter_33 : decode cX7_counter 33 = .ok (.goto 23, 3) := by decide +kernel
theorem dX7_counter_36 : decode cX7_counter 36 = .ok (.iload_n 0, 1) := by decide +kernel
theorem dX7_counter_37 : decode cX7_counter 37 = .ok (.bipush 10, 2) := by decide +kernel
theorem dX7_counter_39 : decode cX7_counter 39 = .ok (.if_icmp .lt 16, 3) := by decide +kernel
theorem dX7_counter_42 : decode cX7_counter 42 = .ok (.iload_n 0, 1) := by decide +kernel
theorem dX7_counter_43 : decode cX7_counter 43 = .ok (.bipush 16, 2) := by decide +kernel
theorem dX7_counter_45 : decode cX7_counter 45 = .ok (.if_icmp .ge 10, 3) := by decide +kernel
theorem dX7_counter_48 : decode cX7_counter 48 = .ok (.iload_n 0, 1) := by decide +kernel
theorem dX7_counter_49 : decode cX7_counter 49 = .ok (.bipush 6, 2) := by decide +kernel
theorem dX7_counter_51 : decode cX7_counter 51 = .ok (.isub, 1) := by decide +kernel
theorem dX7_counter_52 : decode cX7_counter 52 = .ok (.goto 4, 3) := by decide +kernel
theorem dX7_counter_55 : decode cX7_counter 55 = .ok (.iconst (-1), 1) := by decide +kernel
theorem dX7_counter_56 : decode cX7_counter 56 = .ok (.ireturn, 1) := by decide +kernel
theorem dX7_putOne_0 : decode cX7_putOne 0 = .ok (.iload_n 1, 1) := by decide +kernel
theorem dX7_putOne_1 : decode cX7_putOne 1 = .ok (.iconst 5, 1) := by decide +kernel
theorem dX7_putOne_2 : decode cX7_putOne 2 = .ok (.if_icmp .ne 7, 3) := by decide +kernel
theorem dX7_putOne_5 : decode cX7_putOne 5 = .ok (.iconst 1, 1) := by decide +kernel
theorem dX7_putOne_6 : decode cX7_putOne 6 = .ok (.goto 4, 3) := by decide +kernel
theorem dX7_putOne_9 : decode cX7_putOne 9 = .ok (.iconst 0, 1) := by decide +kernel
theorem dX7_putOne_10 : decode cX7_putOne 10 = .ok (.istore_n 3, 1) := by decide +kernel
theorem dX7_putOne_11 : decode cX7_putOne 11 = .ok (.iload_n 2, 1) := by decide +kernel
theorem dX7_putOne_12 : decode cX7_putOne 12 = .ok (.iconst 2, 1) := by decide +kernel
theorem dX7_putOne_13 : decode cX7_putOne 13 = .ok (.if_icmp .ge 25, 3) := by decide +kernel
theorem dX7_putOne_16 : decode cX7_putOne 16 = .ok (.aload_n 0, 1) := by decide +kernel
theorem dX7_putOne_17 : decode cX7_putOne 17 = .ok (.aload_n 0, 1) := by decide +kernel
theorem dX7_putOne_18 : decode cX7_putOne 18 = .ok (.getfield 104, 3) := by decide +kernel
theorem dX7_putOne_21 : decode cX7_putOne 21 = .ok (.ifCond .ne 8, 3) := by decide +kernel
theorem dX7_putOne_24 : decode cX7_putOne 24 = .ok (.iload_n 2, 1) := by decide +kernel
theorem dX7_putOne_25 : decode cX7_putOne 25 = .ok (.iload_n 3, 1) := by decide +kernel
theorem dX7_putOne_26 : decode cX7_putOne 26 = .ok (.if_icmp .eq 7, 3) := by decide +kernel
theorem dX7_putOne_29 : decode cX7_putOne 29 = .ok (.iconst 1, 1) := by decide +kernel
theorem dX7_putOne_30 : decode cX7_putOne 30 = .ok (.goto 4, 3) := by decide +kernel
theorem dX7_putOne_33 : decode cX7_putOne 33 = .ok (.iconst 0, 1) := by decide +kernel
theorem dX7_putOne_34 : decode cX7_putOne 34 = .ok (.putfield 104, 3) := by decide +kernel
theorem dX7_putOne_37 : decode cX7_putOne 37 = .ok (.return_, 1) := by decide +kernel
theorem dX7_putOne_38 : decode cX7_putOne 38 = .ok (.iconst 0, 1) := by decide +kernel
theorem dX7_putOne_39 : decode cX7_putOne 39 = .ok (.istore 4, 2) := by decide +kernel
theorem dX7_putOne_41 : decode cX7_putOne 41 = .ok (.iconst 0, 1) := by decide +kernel
theorem dX7_putOne_42 : decode cX7_putOne 42 = .ok (.istore 5, 2) := by decide +kernel
theorem dX7_putOne_44 : decode cX7_putOne 44 = .ok (.iconst 0, 1) := by decide +kernel
theorem dX7_putOne_45 : decode cX7_putOne 45 = .ok (.istore 6, 2) := by decide +kernel
theorem dX7_putOne_47 : decode cX7_putOne 47 = .ok (.iload 6, 2) := by decide +kernel
theorem dX7_putOne_49 : decode cX7_putOne 49 = .ok (.aload_n 0, 1) := by decide +kernel
theorem dX7_putOne_50 : decode cX7_putOne 50 = .ok (.getfield 84, 3) := by decide +kernel
theorem dX7_putOne_53 : decode cX7_putOne 53 = .ok (.if_icmp .ge 62, 3) := by decide +kernel
theorem dX7_putOne_56 : decode cX7_putOne 56 = .ok (.iload 5, 2) := by decide +kernel
theorem dX7_putOne_58 : decode cX7_putOne 58 = .ok (.ifCond .ne 14, 3) := by decide +kernel
theorem dX7_putOne_61 : decode cX7_putOne 61 = .ok (.aload_n 0, 1) := by decide +kernel
theorem dX7_putOne_62 : decode cX7_putOne 62 = .ok (.getfield 46, 3) := by decide +kernel
theorem dX7_putOne_65 : decode cX7_putOne 65 = .ok (.iload 6, 2) := by decide +kernel
theorem dX7_putOne_67 : decode cX7_putOne 67 = .ok (.iaload, 1) := by decide +kernel
theorem dX7_putOne_68 : decode cX7_putOne 68 = .ok (.iload_n 2, 1) := by decide +kernel
theorem dX7_putOne_69 : decode cX7_putOne 69 = .ok (.if_icmp .ne 7, 3) := by decide +kernel
theorem dX7_putOne_72 : decode cX7_putOne 72 = .ok (.iconst 1, 1) := by decide +kernel
theorem dX7_putOne_73 : decode cX7_putOne 73 = .ok (.goto 4, 3) := by decide +kernel
theorem dX7_putOne_76 : decode cX7_putOne 76 = .ok (.iconst 0, 1) := by decide +kernel
theorem dX7_putOne_77 : decode cX7_putOne 77 = .ok (.istore 5, 2) := by decide +kernel
theorem dX7_putOne_79 : decode cX7_putOne 79 = .ok (.aload_n 0, 1) := by decide +kernel
theorem dX7_putOne_80 : decode cX7_putOne 80 = .ok (.aload_n 0, 1) := by decide +kernel
theorem dX7_putOne_81 : decode cX7_putOne 81 = .ok (.getfield 104, 3) := by decide +kernel
theorem dX7_putOne_84 : decode cX7_putOne 84 = .ok (.ifCond .ne 17, 3) := by decide +kernel
theorem dX7_putOne_87 : decode cX7_putOne 87 = .ok (.aload_n 0, 1) := by decide +kernel
theorem dX7_putOne_88 : decode cX7_putOne 88 = .ok (.getfield 46, 3) := by decide +kernel
theorem dX7_putOne_91 : decode cX7_putOne 91 = .ok (.iload 6, 2) := by decide +kernel
theorem dX7_putOne_93 : decode cX7_putOne 93 = .ok (.iaload, 1) := by decide +kernel
theorem dX7_putOne_94 : decode cX7_putOne 94 = .ok (.iload_n 2, 1) := by decide +kernel
theorem dX7_putOne_95 : decode cX7_putOne 95 = .ok (.invokestatic 108, 3) := by decide +kernel
theorem dX7_putOne_98 : decode cX7_putOne 98 = .ok (.if_icmp .ne 7, 3) := by decide +kernel
theorem dX7_putOne_101 : decode cX7_putOne 101 = .ok (.iconst 1, 1) := by decide +kernel
theorem dX7_putOne_102 : decode cX7_putOne 102 = .ok (.goto 4, 3) := by decide +kernel
theorem dX7_putOne_105 : decode cX7_putOne 105 = .ok (.iconst 0, 1) := by decide +kernel
theorem dX7_putOne_106 : decode cX7_putOne 106 = .ok (.putfield 104, 3) := by decide +kernel
theorem dX7_putOne_109 : decode cX7_putOne 109 = .ok (.iinc 6 1, 3) := by decide +kernel
theorem dX7_putOne_112 : decode cX7_putOne 112 = .ok (.goto (-65), 3) := by decide +kernel
theorem dX7_putOne_115 : decode cX7_putOne 115 = .ok (.iload 5, 2) := by decide +kernel
theorem dX7_putOne_117 : decode cX7_putOne 117 = .ok (.ifCond .eq 4, 3) := by decide +kernel
theorem dX7_putOne_120 : decode cX7_putOne 120 = .ok (.return_, 1) := by decide +kernel
theorem dX7_putOne_121 : decode cX7_putOne 121 = .ok (.iload 4, 2) := by decide +kernel
theorem dX7_putOne_123 : decode cX7_putOne 123 = .ok (.aload_n 0, 1) := by decide +kernel
theorem dX7_putOne_124 : decode cX7_putOne 124 = .ok (.getfield 84, 3) := by decide +kernel
theorem dX7_putOne_127 : decode cX7_putOne 127 = .ok (.if_icmp .ge 24, 3) := by decide +kernel
theorem dX7_putOne_130 : decode cX7_putOne 130 = .ok (.aload_n 0, 1) := by decide +kernel
theorem dX7_putOne_131 : decode cX7_putOne 131 = .ok (.aload_n 0, 1) := by decide +kernel
theorem dX7_putOne_132 : decode cX7_putOne 132 = .ok (.getfield 46, 3) := by decide +kernel
theorem dX7_putOne_135 : decode cX7_putOne 135 = .ok (.iload 4, 2) := by decide +kernel
theorem dX7_putOne_137 : decode cX7_putOne 137 = .ok (.iaload, 1) := by decide +kernel
theorem dX7_putOne_138 : decode cX7_putOne 138 = .ok (.iload_n 2, 1) := by decide +kernel
theorem dX7_putOne_139 : decode cX7_putOne 139 = .ok (.invokevirtual 111, 3) := by decide +kernel
theorem dX7_putOne_142 : decode cX7_putOne 142 = .ok (.ifCond .eq 9, 3) := by decide +kernel
theorem dX7_putOne_145 : decode cX7_putOne 145 = .ok (.iinc 4 1, 3) := by decide +kernel
theorem dX7_putOne_148 : decode cX7_putOne 148 = .ok (.goto (-27), 3) := by decide +kernel
theorem dX7_putOne_151 : decode cX7_putOne 151 = .ok (.aload_n 0, 1) := by decide +kernel
theorem dX7_putOne_152 : decode cX7_putOne 152 = .ok (.getfield 84, 3) := by decide +kernel
theorem dX7_putOne_155 : decode cX7_putOne 155 = .ok (.istore 6, 2) := by decide +kernel
theorem dX7_putOne_157 : decode cX7_putOne 157 = .ok (.iload 6, 2) := by decide +kernel
theorem dX7_putOne_159 : decode cX7_putOne 159 = .ok (.iload 4, 2) := by decide +kernel
theorem dX7_putOne_161 : decode cX7_putOne 161 = .ok (.if_icmp .le 25, 3) := by decide +kernel
theorem dX7_putOne_164 : decode cX7_putOne 164 = .ok (.aload_n 0, 1) := by decide +kernel
theorem dX7_putOne_165 : decode cX7_putOne 165 = .ok (.getfield 46, 3) := by decide +kernel
theorem dX7_putOne_168 : decode cX7_putOne 168 = .ok (.iload 6, 2) := by decide +kernel
theorem dX7_putOne_170 : decode cX7_putOne 170 = .ok (.aload_n 0, 1) := by decide +kernel
theorem dX7_putOne_171 : decode cX7_putOne 171 = .ok (.getfield 46, 3) := by decide +kernel
theorem dX7_putOne_174 : decode cX7_putOne 174 = .ok (.iload 6, 2) := by decide +kernel
theorem dX7_putOne_176 : decode cX7_putOne 176 = .ok (.iconst 1, 1) := by decide +kernel
theorem dX7_putOne_177 : decode cX7_putOne 177 = .ok (.isub, 1) := by decide +kernel
theorem dX7_putOne_178 : decode cX7_putOne 178 = .ok (.iaload, 1) := by decide +kernel
theorem dX7_putOne_179 : decode cX7_putOne 179 = .ok (.iastore, 1) := by decide +kernel
theorem dX7_putOne_180 : decode cX7_putOne 180 = .ok (.iinc 6 (-1), 3) := by decide +kernel
theorem dX7_putOne_183 : decode cX7_putOne 183 = .ok (.goto (-26), 3) := by decide +kernel
theorem dX7_putOne_186 : decode cX7_putOne 186 = .ok (.aload_n 0, 1) := by decide +kernel
theorem dX7_putOne_187 : decode cX7_putOne 187 = .ok (.getfield 46, 3) := by decide +kernel
theorem dX7_putOne_190 : decode cX7_putOne 190 = .ok (.iload 4, 2) := by decide +kernel
theorem dX7_putOne_192 : decode cX7_putOne 192 = .ok (.iload_n 2, 1) := by decide +kernel
theorem dX7_putOne_193 : decode cX7_putOne 193 = .ok (.iastore, 1) := by decide +kernel
theorem dX7_putOne_194 : decode cX7_putOne 194 = .ok (.aload_n 0, 1) := by decide +kernel
theorem dX7_putOne_195 : decode cX7_putOne 195 = .ok (.dup, 1) := by decide +kernel
theorem dX7_putOne_196 : decode cX7_putOne 196 = .ok (.getfield 84, 3) := by decide +kernel
theorem dX7_putOne_199 : decode cX7_putOne 199 = .ok (.iconst 1, 1) := by decide +kernel
theorem dX7_putOne_200 : decode cX7_putOne 200 = .ok (.iadd, 1) := by decide +kernel
theorem dX7_putOne_201 : decode cX7_putOne 201 = .ok (.putfield 84, 3) := by decide +kernel
theorem dX7_putOne_204 : decode cX7_putOne 204 = .ok (.return_, 1) := by decide +kernel
theorem dX7_putIn_0 : decode cX7_putIn 0 = .ok (.iload_n 2, 1) := by decide +kernel
theorem dX7_putIn_1 : decode cX7_putIn 1 = .ok (.bipush 16, 2) := by decide +kernel
theorem dX7_putIn_3 : decode cX7_putIn 3 = .ok (.if_icmp .lt 52, 3) := by decide +kernel
theorem dX7_putIn_6 : decode cX7_putIn 6 = .ok (.aload_n 0, 1) := by decide +kernel
theorem dX7_putIn_7 : decode cX7_putIn 7 = .ok (.getfield 20, 3) := by decide +kernel
theorem dX7_putIn_10 : decode cX7_putIn 10 = .ok (.iload_n 2, 1) := by decide +kernel
theorem dX7_putIn_11 : decode cX7_putIn 11 = .ok (.iaload, 1) := by decide +kernel
theorem dX7_putIn_12 : decode cX7_putIn 12 = .ok (.iload_n 1, 1) := by decide +kernel
theorem dX7_putIn_13 : decode cX7_putIn 13 = .ok (.if_icmp .ne 42, 3) := by decide +kernel
theorem dX7_putIn_16 : decode cX7_putIn 16 = .ok (.iconst 0, 1) := by decide +kernel
theorem dX7_putIn_17 : decode cX7_putIn 17 = .ok (.istore_n 3, 1) := by decide +kernel
theorem dX7_putIn_18 : decode cX7_putIn 18 = .ok (.iload_n 3, 1) := by decide +kernel
theorem dX7_putIn_19 : decode cX7_putIn 19 = .ok (.aload_n 0, 1) := by decide +kernel
theorem dX7_putIn_20 : decode cX7_putIn 20 = .ok (.getfield 26, 3) := by decide +kernel
theorem dX7_putIn_23 : decode cX7_putIn 23 = .ok (.iload_n 2, 1) := by decide +kernel
theorem dX7_putIn_24 : decode cX7_putIn 24 = .ok (.iaload, 1) := by decide +kernel
theorem dX7_putIn_25 : decode cX7_putIn 25 = .ok (.if_icmp .ge 27, 3) := by decide +kernel
theorem dX7_putIn_28 : decode cX7_putIn 28 = .ok (.aload_n 0, 1) := by decide +kernel
theorem dX7_putIn_29 : decode cX7_putIn 29 = .ok (.iload_n 1, 1) := by decide +kernel
theorem dX7_putIn_30 : decode cX7_putIn 30 = .ok (.aload_n 0, 1) := by decide +kernel
theorem dX7_putIn_31 : decode cX7_putIn 31 = .ok (.getfield 43, 3) := by decide +kernel
theorem dX7_putIn_34 : decode cX7_putIn 34 = .ok (.aload_n 0, 1) := by decide +kernel
theorem dX7_putIn_35 : decode cX7_putIn 35 = .ok (.getfield 23, 3) := by decide +kernel
theorem dX7_putIn_38 : decode cX7_putIn 38 = .ok (.iload_n 2, 1) := by decide +kernel
theorem dX7_putIn_39 : decode cX7_putIn 39 = .ok (.iaload, 1) := by decide +kernel
theorem dX7_putIn_40 : decode cX7_putIn 40 = .ok (.iload_n 3, 1) := by decide +kernel
theorem dX7_putIn_41 : decode cX7_putIn 41 = .ok (.iadd, 1) := by decide +kernel
theorem dX7_putIn_42 : decode cX7_putIn 42 = .ok (.iaload, 1) := by decide +kernel
theorem dX7_putIn_43 : decode cX7_putIn 43 = .ok (.invokevirtual 114, 3) := by decide +kernel
theorem dX7_putIn_46 : decode cX7_putIn 46 = .ok (.iinc 3 1, 3) := by decide +kernel
theorem dX7_putIn_49 : decode cX7_putIn 49 = .ok (.goto (-31), 3) := by decide +kernel
theorem dX7_putIn_52 : decode cX7_putIn 52 = .ok (.goto 9, 3) := by decide +kernel
theorem dX7_putIn_55 : decode cX7_putIn 55 = .ok (.aload_n 0, 1) := by decide +kernel
theorem dX7_putIn_56 : decode cX7_putIn 56 = .ok (.iload_n 1, 1) := by decide +kernel
theorem dX7_putIn_57 : decode cX7_putIn 57 = .ok (.iload_n 2, 1) := by decide +kernel
theorem dX7_putIn_58 : decode cX7_putIn 58 = .ok (.invokevirtual 114, 3) := by decide +kernel
theorem dX7_putIn_61 : decode cX7_putIn 61 = .ok (.return_, 1) := by decide +kernel
theorem dX7_endPut_0 : decode cX7_endPut 0 = .ok (.iload_n 1, 1) := by decide +kernel
theorem dX7_endPut_1 : decode cX7_endPut 1 = .ok (.iconst 5, 1) := by decide +kernel
theorem dX7_endPut_2 : decode cX7_endPut 2 = .ok (.if_icmp .ne 7, 3) := by decide +kernel
theorem dX7_endPut_5 : decode cX7_endPut 5 = .ok (.iconst 1, 1) := by decide +kernel
theorem dX7_endPut_6 : decode cX7_endPut 6 = .ok (.goto 4, 3) := by decide +kernel
theorem dX7_endPut_9 : decode cX7_endPut 9 = .ok (.iconst 0, 1) := by decide +kernel
theorem dX7_endPut_10 : decode cX7_endPut 10 = .ok (.istore_n 2, 1) := by decide +kernel
theorem dX7_endPut_11 : decode cX7_endPut 11 = .ok (.aload_n 0, 1) := by decide +kernel
theorem dX7_endPut_12 : decode cX7_endPut 12 = .ok (.getfield 104, 3) := by decide +kernel
theorem dX7_endPut_15 : decode cX7_endPut 15 = .ok (.ifCond .eq 9, 3) := by decide +kernel
theorem dX7_endPut_18 : decode cX7_endPut 18 = .ok (.iconst 1, 1) := by decide +kernel
theorem dX7_endPut_19 : decode cX7_endPut 19 = .ok (.iload_n 2, 1) := by decide +kernel
theorem dX7_endPut_20 : decode cX7_endPut 20 = .ok (.isub, 1) := by decide +kernel
theorem dX7_endPut_21 : decode cX7_endPut 21 = .ok (.goto 36, 3) := by decide +kernel
theorem dX7_endPut_24 : decode cX7_endPut 24 = .ok (.aload_n 0, 1) := by decide +kernel
theorem dX7_endPut_25 : decode cX7_endPut 25 = .ok (.getfield 84, 3) := by decide +kernel
theorem dX7_endPut_28 : decode cX7_endPut 28 = .ok (.ifCond .ne 7, 3) := by decide +kernel
theorem dX7_endPut_31 : decode cX7_endPut 31 = .ok (.iload_n 2, 1) := by decide +kernel
theorem dX7_endPut_32 : decode cX7_endPut 32 = .ok (.goto 25, 3) := by decide +kernel
theorem dX7_endPut_35 : decode cX7_endPut 35 = .ok (.aload_n 0, 1) := by decide +kernel
theorem dX7_endPut_36 : decode cX7_endPut 36 = .ok (.getfield 84, 3) := by decide +kernel
theorem dX7_endPut_39 : decode cX7_endPut 39 = .ok (.iconst 1, 1) := by decide +kernel
theorem dX7_endPut_40 : decode cX7_endPut 40 = .ok (.if_icmp .ne 12, 3) := by decide +kernel
theorem dX7_endPut_43 : decode cX7_endPut 43 = .ok (.aload_n 0, 1) := by decide +kernel
theorem dX7_endPut_44 : decode cX7_endPut 44 = .ok (.getfield 46, 3) := by decide +kernel
theorem dX7_endPut_47 : decode cX7_endPut 47 = .ok (.iconst 0, 1) := by decide +kernel
theorem dX7_endPut_48 : decode cX7_endPut 48 = .ok (.iaload, 1) := by decide +kernel
theorem dX7_endPut_49 : decode cX7_endPut 49 = .ok (.goto 8, 3) := by decide +kernel
theorem dX7_endPut_52 : decode cX7_endPut 52 = .ok (.aload_n 0, 1) := by decide +kernel
theorem dX7_endPut_53 : decode cX7_endPut 53 = .ok (.iload_n 1, 1) := by decide +kernel
theorem dX7_endPut_54 : decode cX7_endPut 54 = .ok (.invokevirtual 118, 3) := by decide +kernel
theorem dX7_endPut_57 : decode cX7_endPut 57 = .ok (.ireturn, 1) := by decide +kernel
theorem dX7_both_0 : decode cX7_both 0 = .ok (.aload_n 0, 1) := by decide +kernel
theorem dX7_both_1 : decode cX7_both 1 = .ok (.invokevirtual 121, 3) := by decide +kernel
theorem dX7_both_4 : decode cX7_both 4 = .ok (.aload_n 0, 1) := by decide +kernel
theorem dX7_both_5 : decode cX7_both 5 = .ok (.iload_n 1, 1) := by decide +kernel
theorem dX7_both_6 : decode cX7_both 6 = .ok (.iload_n 2, 1) := by decide +kernel
theorem dX7_both_7 : decode cX7_both 7 = .ok (.invokevirtual 124, 3) := by decide +kernel
theorem dX7_both_10 : decode cX7_both 10 = .ok (.aload_n 0, 1) := by decide +kernel
theorem dX7_both_11 : decode cX7_both 11 = .ok (.iload_n 1, 1) := by decide +kernel
theorem dX7_both_12 : decode cX7_both 12 = .ok (.iload_n 3, 1) := by decide +kernel
theorem dX7_both_13 : decode cX7_both 13 = .ok (.invokevirtual 124, 3) := by decide +kernel
theorem dX7_both_16 : decode cX7_both 16 = .ok (.aload_n 0, 1) := by decide +kernel
theorem dX7_both_17 : decode cX7_both 17 = .ok (.iload_n 1, 1) := by decide +kernel
theorem dX7_both_18 : decode cX7_both 18 = .ok (.invokevirtual 127, 3) := by decide +kernel
theorem dX7_both_21 : decode cX7_both 21 = .ok (.ireturn, 1) := by decide +kernel
theorem dX7_mark_0 : decode cX7_mark 0 = .ok (.iconst 0, 1) := by decide +kernel
theorem dX7_mark_1 : decode cX7_mark 1 = .ok (.istore_n 2, 1) := by decide +kernel
theorem dX7_mark_2 : decode cX7_mark 2 = .ok (.iload_n 2, 1) := by decide +kernel
theorem dX7_mark_3 : decode cX7_mark 3 = .ok (.iload_n 1, 1) := by decide +kernel
theorem dX7_mark_4 : decode cX7_mark 4 = .ok (.if_icmp .le 9, 3) := by decide +kernel
theorem dX7_mark_7 : decode cX7_mark 7 = .ok (.iload_n 2, 1) := by decide +kernel
theorem dX7_mark_8 : decode cX7_mark 8 = .ok (.bipush 16, 2) := by decide +kernel
theorem dX7_mark_10 : decode cX7_mark 10 = .ok (.if_icmp .ge 16, 3) := by decide +kernel
theorem dX7_mark_13 : decode cX7_mark 13 = .ok (.aload_n 0, 1) := by decide +kernel
theorem dX7_mark_14 : decode cX7_mark 14 = .ok (.getfield 38, 3) := by decide +kernel
theorem dX7_mark_17 : decode cX7_mark 17 = .ok (.iload_n 2, 1) := by decide +kernel
theorem dX7_mark_18 : decode cX7_mark 18 = .ok (.iconst 0, 1) := by decide +kernel
theorem dX7_mark_19 : decode cX7_mark 19 = .ok (.bastore, 1) := by decide +kernel
theorem dX7_mark_20 : decode cX7_mark 20 = .ok (.iinc 2 1, 3) := by decide +kernel
theorem dX7_mark_23 : decode cX7_mark 23 = .ok (.goto (-21), 3) := by decide +kernel
theorem dX7_mark_26 : decode cX7_mark 26 = .ok (.aload_n 0, 1) := by decide +kernel
theorem dX7_mark_27 : decode cX7_mark 27 = .ok (.getfield 38, 3) := by decide +kernel
theorem dX7_mark_30 : decode cX7_mark 30 = .ok (.iload_n 1, 1) := by decide +kernel
theorem dX7_mark_31 : decode cX7_mark 31 = .ok (.iconst 1, 1) := by decide +kernel
theorem dX7_mark_32 : decode cX7_mark 32 = .ok (.bastore, 1) := by decide +kernel
theorem dX7_mark_33 : decode cX7_mark 33 = .ok (.iload_n 1, 1) := by decide +kernel
theorem dX7_mark_34 : decode cX7_mark 34 = .ok (.istore_n 2, 1) := by decide +kernel
theorem dX7_mark_35 : decode cX7_mark 35 = .ok (.iload_n 2, 1) := by decide +kernel
theorem dX7_mark_36 : decode cX7_mark 36 = .ok (.bipush 16, 2) := by decide +kernel
theorem dX7_mark_38 : decode cX7_mark 38 = .ok (.if_icmp .lt 47, 3) := by decide +kernel
theorem dX7_mark_41 : decode cX7_mark 41 = .ok (.iconst 0, 1) := by decide +kernel
theorem dX7_mark_42 : decode cX7_mark 42 = .ok (.istore_n 3, 1) := by decide +kernel
theorem dX7_mark_43 : decode cX7_mark 43 = .ok (.iload_n 3, 1) := by decide +kernel
theorem dX7_mark_44 : decode cX7_mark 44 = .ok (.aload_n 0, 1) := by decide +kernel
theorem dX7_mark_45 : decode cX7_mark 45 = .ok (.iload_n 2, 1) := by decide +kernel
theorem dX7_mark_46 : decode cX7_mark 46 = .ok (.invokevirtual 91, 3) := by decide +kernel
theorem dX7_mark_49 : decode cX7_mark 49 = .ok (.if_icmp .ge 30, 3) := by decide +kernel
theorem dX7_mark_52 : decode cX7_mark 52 = .ok (.aload_n 0, 1) := by decide +kernel
theorem dX7_mark_53 : decode cX7_mark 53 = .ok (.getfield 38, 3) := by decide +kernel
theorem dX7_mark_56 : decode cX7_mark 56 = .ok (.iload_n 2, 1) := by decide +kernel
theorem dX7_mark_57 : decode cX7_mark 57 = .ok (.baload, 1) := by decide +kernel
theorem dX7_mark_58 : decode cX7_mark 58 = .ok (.ifCond .eq 21, 3) := by decide +kernel
theorem dX7_mark_61 : decode cX7_mark 61 = .ok (.aload_n 0, 1) := by decide +kernel
theorem dX7_mark_62 : decode cX7_mark 62 = .ok (.getfield 38, 3) := by decide +kernel
theorem dX7_mark_65 : decode cX7_mark 65 = .ok (.aload_n 0, 1) := by decide +kernel
theorem dX7_mark_66 : decode cX7_mark 66 = .ok (.iload_n 2, 1) := by decide +kernel
theorem dX7_mark_67 : decode cX7_mark 67 = .ok (.iload_n 3, 1) := by decide +kernel
theorem dX7_mark_68 : decode cX7_mark 68 = .ok (.invokevirtual 97, 3) := by decide +kernel
theorem dX7_mark_71 : decode cX7_mark 71 = .ok (.iconst 1, 1) := by decide +kernel
theorem dX7_mark_72 : decode cX7_mark 72 = .ok (.bastore, 1) := by decide +kernel
theorem dX7_mark_73 : decode cX7_mark 73 = .ok (.iinc 3 1, 3) := by decide +kernel
theorem dX7_mark_76 : decode cX7_mark 76 = .ok (.goto (-33), 3) := by decide +kernel
theorem dX7_mark_79 : decode cX7_mark 79 = .ok (.iinc 2 (-1), 3) := by decide +kernel
theorem dX7_mark_82 : decode cX7_mark 82 = .ok (.goto (-47), 3) := by decide +kernel
theorem dX7_mark_85 : decode cX7_mark 85 = .ok (.return_, 1) := by decide +kernel
theorem dX7_putAll_0 : decode cX7_putAll 0 = .ok (.aload_n 0, 1) := by decide +kernel
theorem dX7_putAll_1 : decode cX7_putAll 1 = .ok (.invokevirtual 121, 3) := by decide +kernel
theorem dX7_putAll_4 : decode cX7_putAll 4 = .ok (.iconst 0, 1) := by decide +kernel
theorem dX7_putAll_5 : decode cX7_putAll 5 = .ok (.istore_n 3, 1) := by decide +kernel
theorem dX7_putAll_6 : decode cX7_putAll 6 = .ok (.iload_n 3, 1) := by decide +kernel
theorem dX7_putAll_7 : decode cX7_putAll 7 = .ok (.aload_n 0, 1) := by decide +kernel
theorem dX7_putAll_8 : decode cX7_putAll 8 = .ok (.getfield 26, 3) := by decide +kernel
theorem dX7_putAll_11 : decode cX7_putAll 11 = .ok (.iload_n 2, 1) := by decide +kernel
theorem dX7_putAll_12 : decode cX7_putAll 12 = .ok (.iaload, 1) := by decide +kernel
theorem dX7_putAll_13 : decode cX7_putAll 13 = .ok (.if_icmp .ge 32, 3) := by decide +kernel
theorem dX7_putAll_16 : decode cX7_putAll 16 = .ok (.aload_n 0, 1) := by decide +kernel
theorem dX7_putAll_17 : decode cX7_putAll 17 = .ok (.iload_n 1, 1) := by decide +kernel
theorem dX7_putAll_18 : decode cX7_putAll 18 = .ok (.aload_n 0, 1) := by decide +kernel
theorem dX7_putAll_19 : decode cX7_putAll 19 = .ok (.getfield 35, 3) := by decide +kernel
theorem dX7_putAll_22 : decode cX7_putAll 22 = .ok (.aload_n 0, 1) := by decide +kernel
theorem dX7_putAll_23 : decode cX7_putAll 23 = .ok (.getfield 43, 3) := by decide +kernel
theorem dX7_putAll_26 : decode cX7_putAll 26 = .ok (.aload_n 0, 1) := by decide +kernel
theorem dX7_putAll_27 : decode cX7_putAll 27 = .ok (.getfield 23, 3) := by decide +kernel
theorem dX7_putAll_30 : decode cX7_putAll 30 = .ok (.iload_n 2, 1) := by decide +kernel
theorem dX7_putAll_31 : decode cX7_putAll 31 = .ok (.iaload, 1) := by decide +kernel
theorem dX7_putAll_32 : decode cX7_putAll 32 = .ok (.iload_n 3, 1) := by decide +kernel
theorem dX7_putAll_33 : decode cX7_putAll 33 = .ok (.iadd, 1) := by decide +kernel
theorem dX7_putAll_34 : decode cX7_putAll 34 = .ok (.iaload, 1) := by decide +kernel
theorem dX7_putAll_35 : decode cX7_putAll 35 = .ok (.iaload, 1) := by decide +kernel
theorem dX7_putAll_36 : decode cX7_putAll 36 = .ok (.invokevirtual 124, 3) := by decide +kernel
theorem dX7_putAll_39 : decode cX7_putAll 39 = .ok (.iinc 3 1, 3) := by decide +kernel
theorem dX7_putAll_42 : decode cX7_putAll 42 = .ok (.goto (-36), 3) := by decide +kernel
theorem dX7_putAll_45 : decode cX7_putAll 45 = .ok (.aload_n 0, 1) := by decide +kernel
theorem dX7_putAll_46 : decode cX7_putAll 46 = .ok (.iload_n 1, 1) := by decide +kernel
theorem dX7_putAll_47 : decode cX7_putAll 47 = .ok (.invokevirtual 127, 3) := by decide +kernel
theorem dX7_putAll_50 : decode cX7_putAll 50 = .ok (.ireturn, 1) := by decide +kernel
theorem dX7_rewritten_0 : decode cX7_rewritten 0 = .ok (.aload_n 0, 1) := by decide +kernel
theorem dX7_rewritten_1 : decode cX7_rewritten 1 = .ok (.iload_n 1, 1) := by decide +kernel
theorem dX7_rewritten_2 : decode cX7_rewritten 2 = .ok (.invokevirtual 130, 3) := by decide +kernel
theorem dX7_rewritten_5 : decode cX7_rewritten 5 = .ok (.iconst 0, 1) := by decide +kernel
theorem dX7_rewritten_6 : decode cX7_rewritten 6 = .ok (.istore_n 3, 1) := by decide +kernel
theorem dX7_rewritten_7 : decode cX7_rewritten 7 = .ok (.iload_n 3, 1) := by decide +kernel
theorem dX7_rewritten_8 : decode cX7_rewritten 8 = .ok (.iload_n 1, 1) := by decide +kernel
theorem dX7_rewritten_9 : decode cX7_rewritten 9 = .ok (.if_icmp .le 9, 3) := by decide +kernel
theorem dX7_rewritten_12 : decode cX7_rewritten 12 = .ok (.iload_n 3, 1) := by decide +kernel
theorem dX7_rewritten_13 : decode cX7_rewritten 13 = .ok (.bipush 16, 2) := by decide +kernel
theorem dX7_rewritten_15 : decode cX7_rewritten 15 = .ok (.if_icmp .ge 114, 3) := by decide +kernel
theorem dX7_rewritten_18 : decode cX7_rewritten 18 = .ok (.iload_n 3, 1) := by decide +kernel
theorem dX7_rewritten_19 : decode cX7_rewritten 19 = .ok (.iconst 4, 1) := by decide +kernel
theorem dX7_rewritten_20 : decode cX7_rewritten 20 = .ok (.if_icmp .ge 31, 3) := by decide +kernel
theorem dX7_rewritten_23 : decode cX7_rewritten 23 = .ok (.aload_n 0, 1) := by decide +kernel
theorem dX7_rewritten_24 : decode cX7_rewritten 24 = .ok (.getfield 35, 3) := by decide +kernel
theorem dX7_rewritten_27 : decode cX7_rewritten 27 = .ok (.iload_n 3, 1) := by decide +kernel
theorem dX7_rewritten_28 : decode cX7_rewritten 28 = .ok (.iload_n 3, 1) := by decide +kernel
theorem dX7_rewritten_29 : decode cX7_rewritten 29 = .ok (.iconst 2, 1) := by decide +kernel
theorem dX7_rewritten_30 : decode cX7_rewritten 30 = .ok (.if_icmp .ge 7, 3) := by decide +kernel
theorem dX7_rewritten_33 : decode cX7_rewritten 33 = .ok (.iload_n 3, 1) := by decide +kernel
theorem dX7_rewritten_34 : decode cX7_rewritten 34 = .ok (.goto 13, 3) := by decide +kernel
theorem dX7_rewritten_37 : decode cX7_rewritten 37 = .ok (.iload_n 3, 1) := by decide +kernel
theorem dX7_rewritten_38 : decode cX7_rewritten 38 = .ok (.iconst 2, 1) := by decide +kernel
theorem dX7_rewritten_39 : decode cX7_rewritten 39 = .ok (.if_icmp .ne 7, 3) := by decide +kernel
theorem dX7_rewritten_42 : decode cX7_rewritten 42 = .ok (.iconst 1, 1) := by decide +kernel
theorem dX7_rewritten_43 : decode cX7_rewritten 43 = .ok (.goto 4, 3) := by decide +kernel
theorem dX7_rewritten_46 : decode cX7_rewritten 46 = .ok (.iconst 0, 1) := by decide +kernel
theorem dX7_rewritten_47 : decode cX7_rewritten 47 = .ok (.iastore, 1) := by decide +kernel
theorem dX7_rewritten_48 : decode cX7_rewritten 48 = .ok (.goto 75, 3) := by decide +kernel
theorem dX7_rewritten_51 : decode cX7_rewritten 51 = .ok (.iload_n 3, 1) := by decide +kernel
theorem dX7_rewritten_52 : decode cX7_rewritten 52 = .ok (.bipush 16, 2) := by decide +kernel
theorem dX7_rewritten_54 : decode cX7_rewritten 54 = .ok (.if_icmp .ge 49, 3) := by decide +kernel
theorem dX7_rewritten_57 : decode cX7_rewritten 57 = .ok (.iload_n 2, 1) := by decide +kernel
theorem dX7_rewritten_58 : decode cX7_rewritten 58 = .ok (.iload_n 3, 1) := by decide +kernel
theorem dX7_rewritten_59 : decode cX7_rewritten 59 = .ok (.bipush 10, 2) := by decide +kernel
theorem dX7_rewritten_61 : decode cX7_rewritten 61 = .ok (.if_icmp .ge 9, 3) := by decide +kernel
theorem dX7_rewritten_64 : decode cX7_rewritten 64 = .ok (.iload_n 3, 1) := by decide +kernel
theorem dX7_rewritten_65 : decode cX7_rewritten 65 = .ok (.iconst 4, 1) := by decide +kernel
theorem dX7_rewritten_66 : decode cX7_rewritten 66 = .ok (.isub, 1) := by decide +kernel
theorem dX7_rewritten_67 : decode cX7_rewritten 67 = .ok (.goto 7, 3) := by decide +kernel
theorem dX7_rewritten_70 : decode cX7_rewritten 70 = .ok (.iload_n 3, 1) := by decide +kernel
theorem dX7_rewritten_71 : decode cX7_rewritten 71 = .ok (.bipush 10, 2) := by decide +kernel
theorem dX7_rewritten_73 : decode cX7_rewritten 73 = .ok (.isub, 1) := by decide +kernel
theorem dX7_rewritten_74 : decode cX7_rewritten 74 = .ok (.ishr, 1) := by decide +kernel
theorem dX7_rewritten_75 : decode cX7_rewritten 75 = .ok (.iconst 1, 1) := by decide +kernel
theorem dX7_rewritten_76 : decode cX7_rewritten 76 = .ok (.iand, 1) := by decide +kernel
theorem dX7_rewritten_77 : decode cX7_rewritten 77 = .ok (.istore 4, 2) := by decide +kernel
theorem dX7_rewritten_79 : decode cX7_rewritten 79 = .ok (.aload_n 0, 1) := by decide +kernel
theorem dX7_rewritten_80 : decode cX7_rewritten 80 = .ok (.getfield 35, 3) := by decide +kernel
theorem dX7_rewritten_83 : decode cX7_rewritten 83 = .ok (.iload_n 3, 1) := by decide +kernel
theorem dX7_rewritten_84 : decode cX7_rewritten 84 = .ok (.iload_n 3, 1) := by decide +kernel
theorem dX7_rewritten_85 : decode cX7_rewritten 85 = .ok (.bipush 10, 2) := by decide +kernel
theorem dX7_rewritten_87 : decode cX7_rewritten 87 = .ok (.if_icmp .ge 8, 3) := by decide +kernel
theorem dX7_rewritten_90 : decode cX7_rewritten 90 = .ok (.iload 4, 2) := by decide +kernel
theorem dX7_rewritten_92 : decode cX7_rewritten 92 = .ok (.goto 7, 3) := by decide +kernel
theorem dX7_rewritten_95 : decode cX7_rewritten 95 = .ok (.iconst 1, 1) := by decide +kernel
theorem dX7_rewritten_96 : decode cX7_rewritten 96 = .ok (.iload 4, 2) := by decide +kernel
theorem dX7_rewritten_98 : decode cX7_rewritten 98 = .ok (.isub, 1) := by decide +kernel
theorem dX7_rewritten_99 : decode cX7_rewritten 99 = .ok (.iastore, 1) := by decide +kernel
theorem dX7_rewritten_100 : decode cX7_rewritten 100 = .ok (.goto 23, 3) := by decide +kernel
theorem dX7_rewritten_103 : decode cX7_rewritten 103 = .ok (.aload_n 0, 1) := by decide +kernel
theorem dX7_rewritten_104 : decode cX7_rewritten 104 = .ok (.getfield 38, 3) := by decide +kernel
theorem dX7_rewritten_107 : decode cX7_rewritten 107 = .ok (.iload_n 3, 1) := by decide +kernel
theorem dX7_rewritten_108 : decode cX7_rewritten 108 = .ok (.baload, 1) := by decide +kernel
theorem dX7_rewritten_109 : decode cX7_rewritten 109 = .ok (.ifCond .eq 14, 3) := by decide +kernel
theorem dX7_rewritten_112 : decode cX7_rewritten 112 = .ok (.aload_n 0, 1) := by decide +kernel
theorem dX7_rewritten_113 : decode cX7_rewritten 113 = .ok (.getfield 35, 3) := by decide +kernel
theorem dX7_rewritten_116 : decode cX7_rewritten 116 = .ok (.iload_n 3, 1) := by decide +kernel
theorem dX7_rewritten_117 : decode cX7_rewritten 117 = .ok (.aload_n 0, 1) := by decide +kernel
theorem dX7_rewritten_118 : decode cX7_rewritten 118 = .ok (.iload_n 3, 1) := by decide +kernel
theorem dX7_rewritten_119 : decode cX7_rewritten 119 = .ok (.invokevirtual 134, 3) := by decide +kernel
theorem dX7_rewritten_122 : decode cX7_rewritten 122 = .ok (.iastore, 1) := by decide +kernel
theorem dX7_rewritten_123 : decode cX7_rewritten 123 = .ok (.iinc 3 1, 3) := by decide +kernel
theorem dX7_rewritten_126 : decode cX7_rewritten 126 = .ok (.goto (-119), 3) := by decide +kernel
theorem dX7_rewritten_129 : decode cX7_rewritten 129 = .ok (.aload_n 0, 1) := by decide +kernel
theorem dX7_rewritten_130 : decode cX7_rewritten 130 = .ok (.getfield 35, 3) := by decide +kernel
theorem dX7_rewritten_133 : decode cX7_rewritten 133 = .ok (.iload_n 1, 1) := by decide +kernel
theorem dX7_rewritten_134 : decode cX7_rewritten 134 = .ok (.iaload, 1) := by decide +kernel
theorem dX7_rewritten_135 : decode cX7_rewritten 135 = .ok (.ireturn, 1) := by decide +kernel
theorem dX7_step_0 : decode cX7_step 0 = .ok (.aload_n 0, 1) := by decide +kernel
theorem dX7_step_1 : decode cX7_step 1 = .ok (.getfield 20, 3) := by decide +kernel
theorem dX7_step_4 : decode cX7_step 4 = .ok (.iload_n 1, 1) := by decide +kernel
theorem dX7_step_5 : decode cX7_step 5 = .ok (.iaload, 1) := by decide +kernel
theorem dX7_step_6 : decode cX7_step 6 = .ok (.tableswitch 127 1 4 #[30, 43, 57, 92], 30) := by decide +kernel
theorem dX7_step_36 : decode cX7_step 36 = .ok (.aload_n 0, 1) := by decide +kernel
theorem dX7_step_37 : decode cX7_step 37 = .ok (.iconst 5, 1) := by decide +kernel
theorem dX7_step_38 : decode cX7_step 38 = .ok (.iconst 2, 1) := by decide +kernel
theorem dX7_step_39 : decode cX7_step 39 = .ok (.aload_n 0, 1) := by decide +kernel
theorem dX7_step_40 : decode cX7_step 40 = .ok (.getfield 23, 3) := by decide +kernel
theorem dX7_step_43 : decode cX7_step 43 = .ok (.iload_n 1, 1) := by decide +kernel
theorem dX7_step_44 : decode cX7_step 44 = .ok (.iaload, 1) := by decide +kernel
theorem dX7_step_45 : decode cX7_step 45 = .ok (.invokevirtual 137, 3) := by decide +kernel
theorem dX7_step_48 : decode cX7_step 48 = .ok (.ireturn, 1) := by decide +kernel
theorem dX7_step_49 : decode cX7_step 49 = .ok (.aload_n 0, 1) := by decide +kernel
theorem dX7_step_50 : decode cX7_step 50 = .ok (.bipush 6, 2) := by decide +kernel
theorem dX7_step_52 : decode cX7_step 52 = .ok (.iconst 3, 1) := by decide +kernel
theorem dX7_step_53 : decode cX7_step 53 = .ok (.aload_n 0, 1) := by decide +kernel
theorem dX7_step_54 : decode cX7_step 54 = .ok (.getfield 23, 3) := by decide +kernel
theorem dX7_step_57 : decode cX7_step 57 = .ok (.iload_n 1, 1) := by decide +kernel
theorem dX7_step_58 : decode cX7_step 58 = .ok (.iaload, 1) := by decide +kernel
theorem dX7_step_59 : decode cX7_step 59 = .ok (.invokevirtual 137, 3) := by decide +kernel
theorem dX7_step_62 : decode cX7_step 62 = .ok (.ireturn, 1) := by decide +kernel
theorem dX7_step_63 : decode cX7_step 63 = .ok (.aload_n 0, 1) := by decide +kernel
theorem dX7_step_64 : decode cX7_step 64 = .ok (.bipush 6, 2) := by decide +kernel
theorem dX7_step_66 : decode cX7_step 66 = .ok (.aload_n 0, 1) := by decide +kernel
theorem dX7_step_67 : decode cX7_step 67 = .ok (.getfield 35, 3) := by decide +kernel
theorem dX7_step_70 : decode cX7_step 70 = .ok (.aload_n 0, 1) := by decide +kernel
theorem dX7_step_71 : decode cX7_step 71 = .ok (.getfield 26, 3) := by decide +kernel
theorem dX7_step_74 : decode cX7_step 74 = .ok (.iload_n 1, 1) := by decide +kernel
theorem dX7_step_75 : decode cX7_step 75 = .ok (.iaload, 1) := by decide +kernel
theorem dX7_step_76 : decode cX7_step 76 = .ok (.iaload, 1) := by decide +kernel
theorem dX7_step_77 : decode cX7_step 77 = .ok (.aload_n 0, 1) := by decide +kernel
theorem dX7_step_78 : decode cX7_step 78 = .ok (.iconst 5, 1) := by decide +kernel
theorem dX7_step_79 : decode cX7_step 79 = .ok (.aload_n 0, 1) := by decide +kernel
theorem dX7_step_80 : decode cX7_step 80 = .ok (.getfield 35, 3) := by decide +kernel
theorem dX7_step_83 : decode cX7_step 83 = .ok (.aload_n 0, 1) := by decide +kernel
theorem dX7_step_84 : decode cX7_step 84 = .ok (.getfield 23, 3) := by decide +kernel
theorem dX7_step_87 : decode cX7_step 87 = .ok (.iload_n 1, 1) := by decide +kernel
theorem dX7_step_88 : decode cX7_step 88 = .ok (.iaload, 1) := by decide +kernel
theorem dX7_step_89 : decode cX7_step 89 = .ok (.iaload, 1) := by decide +kernel
theorem dX7_step_90 : decode cX7_step 90 = .ok (.iload_n 1, 1) := by decide +kernel
theorem dX7_step_91 : decode cX7_step 91 = .ok (.invokevirtual 137, 3) := by decide +kernel
theorem dX7_step_94 : decode cX7_step 94 = .ok (.invokevirtual 137, 3) := by decide +kernel
theorem dX7_step_97 : decode cX7_step 97 = .ok (.ireturn, 1) := by decide +kernel
theorem dX7_step_98 : decode cX7_step 98 = .ok (.aload_n 0, 1) := by decide +kernel
theorem dX7_step_99 : decode cX7_step 99 = .ok (.iconst 5, 1) := by decide +kernel
theorem dX7_step_100 : decode cX7_step 100 = .ok (.aload_n 0, 1) := by decide +kernel
theorem dX7_step_101 : decode cX7_step 101 = .ok (.getfield 35, 3) := by decide +kernel
theorem dX7_step_104 : decode cX7_step 104 = .ok (.aload_n 0, 1) := by decide +kernel
theorem dX7_step_105 : decode cX7_step 105 = .ok (.getfield 26, 3) := by decide +kernel
theorem dX7_step_108 : decode cX7_step 108 = .ok (.iload_n 1, 1) := by decide +kernel
theorem dX7_step_109 : decode cX7_step 109 = .ok (.iaload, 1) := by decide +kernel
theorem dX7_step_110 : decode cX7_step 110 = .ok (.iaload, 1) := by decide +kernel
theorem dX7_step_111 : decode cX7_step 111 = .ok (.aload_n 0, 1) := by decide +kernel
theorem dX7_step_112 : decode cX7_step 112 = .ok (.bipush 6, 2) := by decide +kernel
theorem dX7_step_114 : decode cX7_step 114 = .ok (.aload_n 0, 1) := by decide +kernel
theorem dX7_step_115 : decode cX7_step 115 = .ok (.getfield 35, 3) := by decide +kernel
theorem dX7_step_118 : decode cX7_step 118 = .ok (.aload_n 0, 1) := by decide +kernel
theorem dX7_step_119 : decode cX7_step 119 = .ok (.getfield 23, 3) := by decide +kernel
theorem dX7_step_122 : decode cX7_step 122 = .ok (.iload_n 1, 1) := by decide +kernel
theorem dX7_step_123 : decode cX7_step 123 = .ok (.iaload, 1) := by decide +kernel
theorem dX7_step_124 : decode cX7_step 124 = .ok (.iaload, 1) := by decide +kernel
theorem dX7_step_125 : decode cX7_step 125 = .ok (.iload_n 1, 1) := by decide +kernel
theorem dX7_step_126 : decode cX7_step 126 = .ok (.invokevirtual 137, 3) := by decide +kernel
theorem dX7_step_129 : decode cX7_step 129 = .ok (.invokevirtual 137, 3) := by decide +kernel
theorem dX7_step_132 : decode cX7_step 132 = .ok (.ireturn, 1) := by decide +kernel
theorem dX7_step_133 : decode cX7_step 133 = .ok (.aload_n 0, 1) := by decide +kernel
theorem dX7_step_134 : decode cX7_step 134 = .ok (.aload_n 0, 1) := by decide +kernel
theorem dX7_step_135 : decode cX7_step 135 = .ok (.getfield 20, 3) := by decide +kernel
theorem dX7_step_138 : decode cX7_step 138 = .ok (.iload_n 1, 1) := by decide +kernel
theorem dX7_step_139 : decode cX7_step 139 = .ok (.iaload, 1) := by decide +kernel
theorem dX7_step_140 : decode cX7_step 140 = .ok (.iload_n 1, 1) := by decide +kernel
theorem dX7_step_141 : decode cX7_step 141 = .ok (.invokevirtual 141, 3) := by decide +kernel
theorem dX7_step_144 : decode cX7_step 144 = .ok (.ireturn, 1) := by decide +kernel
theorem dX7_opposite_0 : decode cX7_opposite 0 = .ok (.aload_n 0, 1) := by decide +kernel
theorem dX7_opposite_1 : decode cX7_opposite 1 = .ok (.iload_n 1, 1) := by decide +kernel
theorem dX7_opposite_2 : decode cX7_opposite 2 = .ok (.invokevirtual 130, 3) := by decide +kernel
theorem dX7_opposite_5 : decode cX7_opposite 5 = .ok (.iconst 0, 1) := by decide +kernel
theorem dX7_opposite_6 : decode cX7_opposite 6 = .ok (.istore_n 2, 1) := by decide +kernel
theorem dX7_opposite_7 : decode cX7_opposite 7 = .ok (.iload_n 2, 1) := by decide +kernel
theorem dX7_opposite_8 : decode cX7_opposite 8 = .ok (.iload_n 1, 1) := by decide +kernel
theorem dX7_opposite_9 : decode cX7_opposite 9 = .ok (.if_icmp .le 9, 3) := by decide +kernel
theorem dX7_opposite_12 : decode cX7_opposite 12 = .ok (.iload_n 2, 1) := by decide +kernel
theorem dX7_opposite_13 : decode cX7_opposite 13 = .ok (.bipush 16, 2) := by decide +kernel
theorem dX7_opposite_15 : decode cX7_opposite 15 = .ok (.if_icmp .ge 59, 3) := by decide +kernel
theorem dX7_opposite_18 : decode cX7_opposite 18 = .ok (.iload_n 2, 1) := by decide +kernel
theorem dX7_opposite_19 : decode cX7_opposite 19 = .ok (.bipush 16, 2) := by decide +kernel
theorem dX7_opposite_21 : decode cX7_opposite 21 = .ok (.if_icmp .ge 27, 3) := by decide +kernel
theorem dX7_opposite_24 : decode cX7_opposite 24 = .ok (.aload_n 0, 1) := by decide +kernel
theorem dX7_opposite_25 : decode cX7_opposite 25 = .ok (.getfield 35, 3) := by decide +kernel
theorem dX7_opposite_28 : decode cX7_opposite 28 = .ok (.iload_n 2, 1) := by decide +kernel
theorem dX7_opposite_29 : decode cX7_opposite 29 = .ok (.iload_n 2, 1) := by decide +kernel
theorem dX7_opposite_30 : decode cX7_opposite 30 = .ok (.iconst 2, 1) := by decide +kernel
theorem dX7_opposite_31 : decode cX7_opposite 31 = .ok (.if_icmp .ge 9, 3) := by decide +kernel
theorem dX7_opposite_34 : decode cX7_opposite 34 = .ok (.iconst 1, 1) := by decide +kernel
theorem dX7_opposite_35 : decode cX7_opposite 35 = .ok (.iload_n 2, 1) := by decide +kernel
theorem dX7_opposite_36 : decode cX7_opposite 36 = .ok (.isub, 1) := by decide +kernel
theorem dX7_opposite_37 : decode cX7_opposite 37 = .ok (.goto 7, 3) := by decide +kernel
theorem dX7_opposite_40 : decode cX7_opposite 40 = .ok (.iload_n 2, 1) := by decide +kernel
theorem dX7_opposite_41 : decode cX7_opposite 41 = .ok (.invokestatic 108, 3) := by decide +kernel
theorem dX7_opposite_44 : decode cX7_opposite 44 = .ok (.iastore, 1) := by decide +kernel
theorem dX7_opposite_45 : decode cX7_opposite 45 = .ok (.goto 23, 3) := by decide +kernel
theorem dX7_opposite_48 : decode cX7_opposite 48 = .ok (.aload_n 0, 1) := by decide +kernel
theorem dX7_opposite_49 : decode cX7_opposite 49 = .ok (.getfield 38, 3) := by decide +kernel
theorem dX7_opposite_52 : decode cX7_opposite 52 = .ok (.iload_n 2, 1) := by decide +kernel
theorem dX7_opposite_53 : decode cX7_opposite 53 = .ok (.baload, 1) := by decide +kernel
theorem dX7_opposite_54 : decode cX7_opposite 54 = .ok (.ifCond .eq 14, 3) := by decide +kernel
theorem dX7_opposite_57 : decode cX7_opposite 57 = .ok (.aload_n 0, 1) := by decide +kernel
theorem dX7_opposite_58 : decode cX7_opposite 58 = .ok (.getfield 35, 3) := by decide +kernel
theorem dX7_opposite_61 : decode cX7_opposite 61 = .ok (.iload_n 2, 1) := by decide +kernel
theorem dX7_opposite_62 : decode cX7_opposite 62 = .ok (.aload_n 0, 1) := by decide +kernel
theorem dX7_opposite_63 : decode cX7_opposite 63 = .ok (.iload_n 2, 1) := by decide +kernel
theorem dX7_opposite_64 : decode cX7_opposite 64 = .ok (.invokevirtual 144, 3) := by decide +kernel
theorem dX7_opposite_67 : decode cX7_opposite 67 = .ok (.iastore, 1) := by decide +kernel
theorem dX7_opposite_68 : decode cX7_opposite 68 = .ok (.iinc 2 1, 3) := by decide +kernel
theorem dX7_opposite_71 : decode cX7_opposite 71 = .ok (.goto (-64), 3) := by decide +kernel
theorem dX7_opposite_74 : decode cX7_opposite 74 = .ok (.aload_n 0, 1) := by decide +kernel
theorem dX7_opposite_75 : decode cX7_opposite 75 = .ok (.getfield 35, 3) := by decide +kernel
theorem dX7_opposite_78 : decode cX7_opposite 78 = .ok (.iload_n 1, 1) := by decide +kernel
theorem dX7_opposite_79 : decode cX7_opposite 79 = .ok (.iaload, 1) := by decide +kernel
theorem dX7_opposite_80 : decode cX7_opposite 80 = .ok (.ireturn, 1) := by decide +kernel
theorem dX7_turned_0 : decode cX7_turned 0 = .ok (.aload_n 0, 1) := by decide +kernel
theorem dX7_turned_1 : decode cX7_turned 1 = .ok (.getfield 20, 3) := by decide +kernel
theorem dX7_turned_4 : decode cX7_turned 4 = .ok (.iload_n 1, 1) := by decide +kernel
theorem dX7_turned_5 : decode cX7_turned 5 = .ok (.iaload, 1) := by decide +kernel
theorem dX7_turned_6 : decode cX7_turned 6 = .ok (.tableswitch 134 1 5 #[34, 52, 70, 98, 126], 34) := by decide +kernel
theorem dX7_turned_40 : decode cX7_turned 40 = .ok (.aload_n 0, 1) := by decide +kernel
theorem dX7_turned_41 : decode cX7_turned 41 = .ok (.iconst 2, 1) := by decide +kernel
theorem dX7_turned_42 : decode cX7_turned 42 = .ok (.aload_n 0, 1) := by decide +kernel
theorem dX7_turned_43 : decode cX7_turned 43 = .ok (.getfield 35, 3) := by decide +kernel
theorem dX7_turned_46 : decode cX7_turned 46 = .ok (.aload_n 0, 1) := by decide +kernel
theorem dX7_turned_47 : decode cX7_turned 47 = .ok (.getfield 23, 3) := by decide +kernel
theorem dX7_turned_50 : decode cX7_turned 50 = .ok (.iload_n 1, 1) := by decide +kernel
theorem dX7_turned_51 : decode cX7_turned 51 = .ok (.iaload, 1) := by decide +kernel
theorem dX7_turned_52 : decode cX7_turned 52 = .ok (.iaload, 1) := by decide +kernel
theorem dX7_turned_53 : decode cX7_turned 53 = .ok (.iconst 0, 1) := by decide +kernel
theorem dX7_turned_54 : decode cX7_turned 54 = .ok (.invokevirtual 147, 3) := by decide +kernel
theorem dX7_turned_57 : decode cX7_turned 57 = .ok (.ireturn, 1) := by decide +kernel
theorem dX7_turned_58 : decode cX7_turned 58 = .ok (.aload_n 0, 1) := by decide +kernel
theorem dX7_turned_59 : decode cX7_turned 59 = .ok (.iconst 1, 1) := by decide +kernel
theorem dX7_turned_60 : decode cX7_turned 60 = .ok (.aload_n 0, 1) := by decide +kernel
theorem dX7_turned_61 : decode cX7_turned 61 = .ok (.getfield 35, 3) := by decide +kernel
theorem dX7_turned_64 : decode cX7_turned 64 = .ok (.aload_n 0, 1) := by decide +kernel
theorem dX7_turned_65 : decode cX7_turned 65 = .ok (.getfield 23, 3) := by decide +kernel
theorem dX7_turned_68 : decode cX7_turned 68 = .ok (.iload_n 1, 1) := by decide +kernel
theorem dX7_turned_69 : decode cX7_turned 69 = .ok (.iaload, 1) := by decide +kernel
theorem dX7_turned_70 : decode cX7_turned 70 = .ok (.iaload, 1) := by decide +kernel
theorem dX7_turned_71 : decode cX7_turned 71 = .ok (.iconst 0, 1) := by decide +kernel
theorem dX7_turned_72 : decode cX7_turned 72 = .ok (.invokevirtual 147, 3) := by decide +kernel
theorem dX7_turned_75 : decode cX7_turned 75 = .ok (.ireturn, 1) := by decide +kernel
theorem dX7_turned_76 : decode cX7_turned 76 = .ok (.aload_n 0, 1) := by decide +kernel
theorem dX7_turned_77 : decode cX7_turned 77 = .ok (.iconst 4, 1) := by decide +kernel
theorem dX7_turned_78 : decode cX7_turned 78 = .ok (.aload_n 0, 1) := by decide +kernel
theorem dX7_turned_79 : decode cX7_turned 79 = .ok (.getfield 35, 3) := by decide +kernel
theorem dX7_turned_82 : decode cX7_turned 82 = .ok (.aload_n 0, 1) := by decide +kernel
theorem dX7_turned_83 : decode cX7_turned 83 = .ok (.getfield 23, 3) := by decide +kernel
theorem dX7_turned_86 : decode cX7_turned 86 = .ok (.iload_n 1, 1) := by decide +kernel
theorem dX7_turned_87 : decode cX7_turned 87 = .ok (.iaload, 1) := by decide +kernel
theorem dX7_turned_88 : decode cX7_turned 88 = .ok (.iaload, 1) := by decide +kernel
theorem dX7_turned_89 : decode cX7_turned 89 = .ok (.aload_n 0, 1) := by decide +kernel
theorem dX7_turned_90 : decode cX7_turned 90 = .ok (.getfield 35, 3) := by decide +kernel
theorem dX7_turned_93 : decode cX7_turned 93 = .ok (.aload_n 0, 1) := by decide +kernel
theorem dX7_turned_94 : decode cX7_turned 94 = .ok (.getfield 26, 3) := by decide +kernel
theorem dX7_turned_97 : decode cX7_turned 97 = .ok (.iload_n 1, 1) := by decide +kernel
theorem dX7_turned_98 : decode cX7_turned 98 = .ok (.iaload, 1) := by decide +kernel
theorem dX7_turned_99 : decode cX7_turned 99 = .ok (.iaload, 1) := by decide +kernel
theorem dX7_turned_100 : decode cX7_turned 100 = .ok (.invokevirtual 147, 3) := by decide +kernel
theorem dX7_turned_103 : decode cX7_turned 103 = .ok (.ireturn, 1) := by decide +kernel
theorem dX7_turned_104 : decode cX7_turned 104 = .ok (.aload_n 0, 1) := by decide +kernel
theorem dX7_turned_105 : decode cX7_turned 105 = .ok (.iconst 3, 1) := by decide +kernel
theorem dX7_turned_106 : decode cX7_turned 106 = .ok (.aload_n 0, 1) := by decide +kernel
theorem dX7_turned_107 : decode cX7_turned 107 = .ok (.getfield 35, 3) := by decide +kernel
theorem dX7_turned_110 : decode cX7_turned 110 = .ok (.aload_n 0, 1) := by decide +kernel
theorem dX7_turned_111 : decode cX7_turned 111 = .ok (.getfield 23, 3) := by decide +kernel
theorem dX7_turned_114 : decode cX7_turned 114 = .ok (.iload_n 1, 1) := by decide +kernel
theorem dX7_turned_115 : decode cX7_turned 115 = .ok (.iaload, 1) := by decide +kernel
theorem dX7_turned_116 : decode cX7_turned 116 = .ok (.iaload, 1) := by decide +kernel
theorem dX7_turned_117 : decode cX7_turned 117 = .ok (.aload_n 0, 1) := by decide +kernel
theorem dX7_turned_118 : decode cX7_turned 118 = .ok (.getfield 35, 3) := by decide +kernel
theorem dX7_turned_121 : decode cX7_turned 121 = .ok (.aload_n 0, 1) := by decide +kernel
theorem dX7_turned_122 : decode cX7_turned 122 = .ok (.getfield 26, 3) := by decide +kernel
theorem dX7_turned_125 : decode cX7_turned 125 = .ok (.iload_n 1, 1) := by decide +kernel
theorem dX7_turned_126 : decode cX7_turned 126 = .ok (.iaload, 1) := by decide +kernel
theorem dX7_turned_127 : decode cX7_turned 127 = .ok (.iaload, 1) := by decide +kernel
theorem dX7_turned_128 : decode cX7_turned 128 = .ok (.invokevirtual 147, 3) := by decide +kernel
theorem dX7_turned_131 : decode cX7_turned 131 = .ok (.ireturn, 1) := by decide +kernel
theorem dX7_turned_132 : decode cX7_turned 132 = .ok (.aload_n 0, 1) := by decide +kernel
theorem dX7_turned_133 : decode cX7_turned 133 = .ok (.bipush 6, 2) := by decide +kernel
theorem dX7_turned_135 : decode cX7_turned 135 = .ok (.iload_n 1, 1) := by decide +kernel
theorem dX7_turned_136 : decode cX7_turned 136 = .ok (.invokevirtual 141, 3) := by decide +kernel
theorem dX7_turned_139 : decode cX7_turned 139 = .ok (.ireturn, 1) := by decide +kernel
theorem dX7_turned_140 : decode cX7_turned 140 = .ok (.aload_n 0, 1) := by decide +kernel
theorem dX7_turned_141 : decode cX7_turned 141 = .ok (.iconst 5, 1) := by decide +kernel
theorem dX7_turned_142 : decode cX7_turned 142 = .ok (.iload_n 1, 1) := by decide +kernel
theorem dX7_turned_143 : decode cX7_turned 143 = .ok (.invokevirtual 141, 3) := by decide +kernel
theorem dX7_turned_146 : decode cX7_turned 146 = .ok (.ireturn, 1) := by decide +kernel
theorem dX7_isTrue_0 : decode cX7_isTrue 0 = .ok (.iconst 0, 1) := by decide +kernel
theorem dX7_isTrue_1 : decode cX7_isTrue 1 = .ok (.istore_n 2, 1) := by decide +kernel
theorem dX7_isTrue_2 : decode cX7_isTrue 2 = .ok (.iload_n 2, 1) := by decide +kernel
theorem dX7_isTrue_3 : decode cX7_isTrue 3 = .ok (.iload_n 1, 1) := by decide +kernel
theorem dX7_isTrue_4 : decode cX7_isTrue 4 = .ok (.if_icmp .le 9, 3) := by decide +kernel
theorem dX7_isTrue_7 : decode cX7_isTrue 7 = .ok (.iload_n 2, 1) := by decide +kernel
theorem dX7_isTrue_8 : decode cX7_isTrue 8 = .ok (.bipush 16, 2) := by decide +kernel
theorem dX7_isTrue_10 : decode cX7_isTrue 10 = .ok (.if_icmp .ge 171, 3) := by decide +kernel
theorem dX7_isTrue_13 : decode cX7_isTrue 13 = .ok (.iload_n 2, 1) := by decide +kernel
theorem dX7_isTrue_14 : decode cX7_isTrue 14 = .ok (.bipush 16, 2) := by decide +kernel
theorem dX7_isTrue_16 : decode cX7_isTrue 16 = .ok (.if_icmp .ge 33, 3) := by decide +kernel
theorem dX7_isTrue_19 : decode cX7_isTrue 19 = .ok (.aload_n 0, 1) := by decide +kernel
theorem dX7_isTrue_20 : decode cX7_isTrue 20 = .ok (.getfield 35, 3) := by decide +kernel
theorem dX7_isTrue_23 : decode cX7_isTrue 23 = .ok (.iload_n 2, 1) := by decide +kernel
theorem dX7_isTrue_24 : decode cX7_isTrue 24 = .ok (.iload_n 2, 1) := by decide +kernel
theorem dX7_isTrue_25 : decode cX7_isTrue 25 = .ok (.iconst 1, 1) := by decide +kernel
theorem dX7_isTrue_26 : decode cX7_isTrue 26 = .ok (.if_icmp .eq 14, 3) := by decide +kernel
theorem dX7_isTrue_29 : decode cX7_isTrue 29 = .ok (.iload_n 2, 1) := by decide +kernel
theorem dX7_isTrue_30 : decode cX7_isTrue 30 = .ok (.iconst 3, 1) := by decide +kernel
theorem dX7_isTrue_31 : decode cX7_isTrue 31 = .ok (.if_icmp .eq 9, 3) := by decide +kernel
theorem dX7_isTrue_34 : decode cX7_isTrue 34 = .ok (.iload_n 2, 1) := by decide +kernel
theorem dX7_isTrue_35 : decode cX7_isTrue 35 = .ok (.bipush 10, 2) := by decide +kernel
theorem dX7_isTrue_37 : decode cX7_isTrue 37 = .ok (.if_icmp .lt 7, 3) := by decide +kernel
theorem dX7_isTrue_40 : decode cX7_isTrue 40 = .ok (.iconst 1, 1) := by decide +kernel
theorem dX7_isTrue_41 : decode cX7_isTrue 41 = .ok (.goto 4, 3) := by decide +kernel
theorem dX7_isTrue_44 : decode cX7_isTrue 44 = .ok (.iconst 0, 1) := by decide +kernel
theorem dX7_isTrue_45 : decode cX7_isTrue 45 = .ok (.iastore, 1) := by decide +kernel
theorem dX7_isTrue_46 : decode cX7_isTrue 46 = .ok (.goto 129, 3) := by decide +kernel
theorem dX7_isTrue_49 : decode cX7_isTrue 49 = .ok (.aload_n 0, 1) := by decide +kernel
theorem dX7_isTrue_50 : decode cX7_isTrue 50 = .ok (.getfield 20, 3) := by decide +kernel
theorem dX7_isTrue_53 : decode cX7_isTrue 53 = .ok (.iload_n 2, 1) := by decide +kernel
theorem dX7_isTrue_54 : decode cX7_isTrue 54 = .ok (.iaload, 1) := by decide +kernel
theorem dX7_isTrue_55 : decode cX7_isTrue 55 = .ok (.iconst 5, 1) := by decide +kernel
theorem dX7_isTrue_56 : decode cX7_isTrue 56 = .ok (.if_icmp .ge 37, 3) := by decide +kernel
theorem dX7_isTrue_59 : decode cX7_isTrue 59 = .ok (.aload_n 0, 1) := by decide +kernel
theorem dX7_isTrue_60 : decode cX7_isTrue 60 = .ok (.getfield 35, 3) := by decide +kernel
theorem dX7_isTrue_63 : decode cX7_isTrue 63 = .ok (.iload_n 2, 1) := by decide +kernel
theorem dX7_isTrue_64 : decode cX7_isTrue 64 = .ok (.aload_n 0, 1) := by decide +kernel
theorem dX7_isTrue_65 : decode cX7_isTrue 65 = .ok (.getfield 20, 3) := by decide +kernel
theorem dX7_isTrue_68 : decode cX7_isTrue 68 = .ok (.iload_n 2, 1) := by decide +kernel
theorem dX7_isTrue_69 : decode cX7_isTrue 69 = .ok (.iaload, 1) := by decide +kernel
theorem dX7_isTrue_70 : decode cX7_isTrue 70 = .ok (.iconst 2, 1) := by decide +kernel
theorem dX7_isTrue_71 : decode cX7_isTrue 71 = .ok (.if_icmp .eq 13, 3) := by decide +kernel
theorem dX7_isTrue_74 : decode cX7_isTrue 74 = .ok (.aload_n 0, 1) := by decide +kernel
theorem dX7_isTrue_75 : decode cX7_isTrue 75 = .ok (.getfield 20, 3) := by decide +kernel
theorem dX7_isTrue_78 : decode cX7_isTrue 78 = .ok (.iload_n 2, 1) := by decide +kernel
theorem dX7_isTrue_79 : decode cX7_isTrue 79 = .ok (.iaload, 1) := by decide +kernel
theorem dX7_isTrue_80 : decode cX7_isTrue 80 = .ok (.iconst 4, 1) := by decide +kernel
theorem dX7_isTrue_81 : decode cX7_isTrue 81 = .ok (.if_icmp .ne 7, 3) := by decide +kernel
theorem dX7_isTrue_84 : decode cX7_isTrue 84 = .ok (.iconst 1, 1) := by decide +kernel
theorem dX7_isTrue_85 : decode cX7_isTrue 85 = .ok (.goto 4, 3) := by decide +kernel
theorem dX7_isTrue_88 : decode cX7_isTrue 88 = .ok (.iconst 0, 1) := by decide +kernel
theorem dX7_isTrue_89 : decode cX7_isTrue 89 = .ok (.iastore, 1) := by decide +kernel
theorem dX7_isTrue_90 : decode cX7_isTrue 90 = .ok (.goto 85, 3) := by decide +kernel
theorem dX7_isTrue_93 : decode cX7_isTrue 93 = .ok (.iconst 0, 1) := by decide +kernel
theorem dX7_isTrue_94 : decode cX7_isTrue 94 = .ok (.istore_n 3, 1) := by decide +kernel
theorem dX7_isTrue_95 : decode cX7_isTrue 95 = .ok (.iconst 0, 1) := by decide +kernel
theorem dX7_isTrue_96 : decode cX7_isTrue 96 = .ok (.istore 4, 2) := by decide +kernel
theorem dX7_isTrue_98 : decode cX7_isTrue 98 = .ok (.iload 4, 2) := by decide +kernel
theorem dX7_isTrue_100 : decode cX7_isTrue 100 = .ok (.aload_n 0, 1) := by decide +kernel
theorem dX7_isTrue_101 : decode cX7_isTrue 101 = .ok (.getfield 26, 3) := by decide +kernel
theorem dX7_isTrue_104 : decode cX7_isTrue 104 = .ok (.iload_n 2, 1) := by decide +kernel
theorem dX7_isTrue_105 : decode cX7_isTrue 105 = .ok (.iaload, 1) := by decide +kernel
theorem dX7_isTrue_106 : decode cX7_isTrue 106 = .ok (.if_icmp .ge 31, 3) := by decide +kernel
theorem dX7_isTrue_109 : decode cX7_isTrue 109 = .ok (.iload_n 3, 1) := by decide +kernel
theorem dX7_isTrue_110 : decode cX7_isTrue 110 = .ok (.aload_n 0, 1) := by decide +kernel
theorem dX7_isTrue_111 : decode cX7_isTrue 111 = .ok (.getfield 35, 3) := by decide +kernel
theorem dX7_isTrue_114 : decode cX7_isTrue 114 = .ok (.aload_n 0, 1) := by decide +kernel
theorem dX7_isTrue_115 : decode cX7_isTrue 115 = .ok (.getfield 43, 3) := by decide +kernel
theorem dX7_isTrue_118 : decode cX7_isTrue 118 = .ok (.aload_n 0, 1) := by decide +kernel
theorem dX7_isTrue_119 : decode cX7_isTrue 119 = .ok (.getfield 23, 3) := by decide +kernel
theorem dX7_isTrue_122 : decode cX7_isTrue 122 = .ok (.iload_n 2, 1) := by decide +kernel
theorem dX7_isTrue_123 : decode cX7_isTrue 123 = .ok (.iaload, 1) := by decide +kernel
theorem dX7_isTrue_124 : decode cX7_isTrue 124 = .ok (.iload 4, 2) := by decide +kernel
theorem dX7_isTrue_126 : decode cX7_isTrue 126 = .ok (.iadd, 1) := by decide +kernel
theorem dX7_isTrue_127 : decode cX7_isTrue 127 = .ok (.iaload, 1) := by decide +kernel
theorem dX7_isTrue_128 : decode cX7_isTrue 128 = .ok (.iaload, 1) := by decide +kernel
theorem dX7_isTrue_129 : decode cX7_isTrue 129 = .ok (.iadd, 1) := by decide +kernel
theorem dX7_isTrue_130 : decode cX7_isTrue 130 = .ok (.istore_n 3, 1) := by decide +kernel
theorem dX7_isTrue_131 : decode cX7_isTrue 131 = .ok (.iinc 4 1, 3) := by decide +kernel
theorem dX7_isTrue_134 : decode cX7_isTrue 134 = .ok (.goto (-36), 3) := by decide +kernel
theorem dX7_isTrue_137 : decode cX7_isTrue 137 = .ok (.aload_n 0, 1) := by decide +kernel
theorem dX7_isTrue_138 : decode cX7_isTrue 138 = .ok (.getfield 35, 3) := by decide +kernel
theorem dX7_isTrue_141 : decode cX7_isTrue 141 = .ok (.iload_n 2, 1) := by decide +kernel
theorem dX7_isTrue_142 : decode cX7_isTrue 142 = .ok (.aload_n 0, 1) := by decide +kernel
theorem dX7_isTrue_143 : decode cX7_isTrue 143 = .ok (.getfield 20, 3) := by decide +kernel
theorem dX7_isTrue_146 : decode cX7_isTrue 146 = .ok (.iload_n 2, 1) := by decide +kernel
theorem dX7_isTrue_147 : decode cX7_isTrue 147 = .ok (.iaload, 1) := by decide +kernel
theorem dX7_isTrue_148 : decode cX7_isTrue 148 = .ok (.iconst 5, 1) := by decide +kernel
theorem dX7_isTrue_149 : decode cX7_isTrue 149 = .ok (.if_icmp .ne 16, 3) := by decide +kernel
theorem dX7_isTrue_152 : decode cX7_isTrue 152 = .ok (.iload_n 3, 1) := by decide +kernel
theorem dX7_isTrue_153 : decode cX7_isTrue 153 = .ok (.aload_n 0, 1) := by decide +kernel
theorem dX7_isTrue_154 : decode cX7_isTrue 154 = .ok (.getfield 26, 3) := by decide +kernel
theorem dX7_isTrue_157 : decode cX7_isTrue 157 = .ok (.iload_n 2, 1) := by decide +kernel
theorem dX7_isTrue_158 : decode cX7_isTrue 158 = .ok (.iaload, 1) := by decide +kernel
theorem dX7_isTrue_159 : decode cX7_isTrue 159 = .ok (.if_icmp .ne 14, 3) := by decide +kernel
theorem dX7_isTrue_162 : decode cX7_isTrue 162 = .ok (.goto 7, 3) := by decide +kernel
theorem dX7_isTrue_165 : decode cX7_isTrue 165 = .ok (.iload_n 3, 1) := by decide +kernel
theorem dX7_isTrue_166 : decode cX7_isTrue 166 = .ok (.ifCond .le 7, 3) := by decide +kernel
theorem dX7_isTrue_169 : decode cX7_isTrue 169 = .ok (.iconst 1, 1) := by decide +kernel
theorem dX7_isTrue_170 : decode cX7_isTrue 170 = .ok (.goto 4, 3) := by decide +kernel
theorem dX7_isTrue_173 : decode cX7_isTrue 173 = .ok (.iconst 0, 1) := by decide +kernel
theorem dX7_isTrue_174 : decode cX7_isTrue 174 = .ok (.iastore, 1) := by decide +kernel
theorem dX7_isTrue_175 : decode cX7_isTrue 175 = .ok (.iinc 2 1, 3) := by decide +kernel
theorem dX7_isTrue_178 : decode cX7_isTrue 178 = .ok (.goto (-176), 3) := by decide +kernel
theorem dX7_isTrue_181 : decode cX7_isTrue 181 = .ok (.aload_n 0, 1) := by decide +kernel
theorem dX7_isTrue_182 : decode cX7_isTrue 182 = .ok (.getfield 35, 3) := by decide +kernel
theorem dX7_isTrue_185 : decode cX7_isTrue 185 = .ok (.iload_n 1, 1) := by decide +kernel
theorem dX7_isTrue_186 : decode cX7_isTrue 186 = .ok (.iaload, 1) := by decide +kernel
theorem dX7_isTrue_187 : decode cX7_isTrue 187 = .ok (.iconst 1, 1) := by decide +kernel
theorem dX7_isTrue_188 : decode cX7_isTrue 188 = .ok (.if_icmp .ne 7, 3) := by decide +kernel
theorem dX7_isTrue_191 : decode cX7_isTrue 191 = .ok (.iconst 1, 1) := by decide +kernel
theorem dX7_isTrue_192 : decode cX7_isTrue 192 = .ok (.goto 4, 3) := by decide +kernel
theorem dX7_isTrue_195 : decode cX7_isTrue 195 = .ok (.iconst 0, 1) := by decide +kernel
theorem dX7_isTrue_196 : decode cX7_isTrue 196 = .ok (.ireturn, 1) := by decide +kernel
theorem dX7_store_0 : decode cX7_store 0 = .ok (.aload_n 0, 1) := by decide +kernel
theorem dX7_store_1 : decode cX7_store 1 = .ok (.iload_n 3, 1) := by decide +kernel
theorem dX7_store_2 : decode cX7_store 2 = .ok (.invokevirtual 130, 3) := by decide +kernel
theorem dX7_store_5 : decode cX7_store 5 = .ok (.bipush 16, 2) := by decide +kernel
theorem dX7_store_7 : decode cX7_store 7 = .ok (.istore 4, 2) := by decide +kernel
theorem dX7_store_9 : decode cX7_store 9 = .ok (.iconst 0, 1) := by decide +kernel
theorem dX7_store_10 : decode cX7_store 10 = .ok (.istore 5, 2) := by decide +kernel
theorem dX7_store_12 : decode cX7_store 12 = .ok (.iconst 0, 1) := by decide +kernel
theorem dX7_store_13 : decode cX7_store 13 = .ok (.istore 6, 2) := by decide +kernel
theorem dX7_store_15 : decode cX7_store 15 = .ok (.iload 6, 2) := by decide +kernel
theorem dX7_store_17 : decode cX7_store 17 = .ok (.bipush 16, 2) := by decide +kernel
theorem dX7_store_19 : decode cX7_store 19 = .ok (.if_icmp .ge 18, 3) := by decide +kernel
theorem dX7_store_22 : decode cX7_store 22 = .ok (.aload_n 0, 1) := by decide +kernel
theorem dX7_store_23 : decode cX7_store 23 = .ok (.getfield 35, 3) := by decide +kernel
theorem dX7_store_26 : decode cX7_store 26 = .ok (.iload 6, 2) := by decide +kernel
theorem dX7_store_28 : decode cX7_store 28 = .ok (.iload 6, 2) := by decide +kernel
theorem dX7_store_30 : decode cX7_store 30 = .ok (.iastore, 1) := by decide +kernel
theorem dX7_store_31 : decode cX7_store 31 = .ok (.iinc 6 1, 3) := by decide +kernel
theorem dX7_store_34 : decode cX7_store 34 = .ok (.goto (-19), 3) := by decide +kernel
theorem dX7_store_37 : decode cX7_store 37 = .ok (.bipush 16, 2) := by decide +kernel
theorem dX7_store_39 : decode cX7_store 39 = .ok (.istore 6, 2) := by decide +kernel
theorem dX7_store_41 : decode cX7_store 41 = .ok (.iload 6, 2) := by decide +kernel
theorem dX7_store_43 : decode cX7_store 43 = .ok (.iload_n 3, 1) := by decide +kernel
theorem dX7_store_44 : decode cX7_store 44 = .ok (.if_icmp .gt 211, 3) := by decide +kernel
theorem dX7_store_47 : decode cX7_store 47 = .ok (.aload_n 0, 1) := by decide +kernel
theorem dX7_store_48 : decode cX7_store 48 = .ok (.getfield 38, 3) := by decide +kernel
theorem dX7_store_51 : decode cX7_store 51 = .ok (.iload 6, 2) := by decide +kernel
theorem dX7_store_53 : decode cX7_store 53 = .ok (.baload, 1) := by decide +kernel
theorem dX7_store_54 : decode cX7_store 54 = .ok (.ifCond .eq 195, 3) := by decide +kernel
theorem dX7_store_57 : decode cX7_store 57 = .ok (.iload_n 1, 1) := by decide +kernel
theorem dX7_store_58 : decode cX7_store 58 = .ok (.iload_n 2, 1) := by decide +kernel
theorem dX7_store_59 : decode cX7_store 59 = .ok (.iconst 2, 1) := by decide +kernel
theorem dX7_store_60 : decode cX7_store 60 = .ok (.iconst 3, 1) := by decide +kernel
theorem dX7_store_61 : decode cX7_store 61 = .ok (.iload 4, 2) := by decide +kernel
theorem dX7_store_63 : decode cX7_store 63 = .ok (.bipush 16, 2) := by decide +kernel
theorem dX7_store_65 : decode cX7_store 65 = .ok (.isub, 1) := by decide +kernel
theorem dX7_store_66 : decode cX7_store 66 = .ok (.imul, 1) := by decide +kernel
theorem dX7_store_67 : decode cX7_store 67 = .ok (.iadd, 1) := by decide +kernel
theorem dX7_store_68 : decode cX7_store 68 = .ok (.invokestatic 150, 3) := by decide +kernel
theorem dX7_store_71 : decode cX7_store 71 = .ok (.istore 7, 2) := by decide +kernel
theorem dX7_store_73 : decode cX7_store 73 = .ok (.aload_n 0, 1) := by decide +kernel
theorem dX7_store_74 : decode cX7_store 74 = .ok (.getfield 35, 3) := by decide +kernel
theorem dX7_store_77 : decode cX7_store 77 = .ok (.iload 6, 2) := by decide +kernel
theorem dX7_store_79 : decode cX7_store 79 = .ok (.iload 4, 2) := by decide +kernel
theorem dX7_store_81 : decode cX7_store 81 = .ok (.iastore, 1) := by decide +kernel
theorem dX7_store_82 : decode cX7_store 82 = .ok (.aload_n 0, 1) := by decide +kernel
theorem dX7_store_83 : decode cX7_store 83 = .ok (.getfield 7, 3) := by decide +kernel
theorem dX7_store_86 : decode cX7_store 86 = .ok (.iload 7, 2) := by decide +kernel
theorem dX7_store_88 : decode cX7_store 88 = .ok (.aload_n 0, 1) := by decide +kernel
theorem dX7_store_89 : decode cX7_store 89 = .ok (.getfield 20, 3) := by decide +kernel
theorem dX7_store_92 : decode cX7_store 92 = .ok (.iload 6, 2) := by decide +kernel
theorem dX7_store_94 : decode cX7_store 94 = .ok (.iaload, 1) := by decide +kernel
theorem dX7_store_95 : decode cX7_store 95 = .ok (.iastore, 1) := by decide +kernel
theorem dX7_store_96 : decode cX7_store 96 = .ok (.aload_n 0, 1) := by decide +kernel
theorem dX7_store_97 : decode cX7_store 97 = .ok (.getfield 7, 3) := by decide +kernel
theorem dX7_store_100 : decode cX7_store 100 = .ok (.iload 7, 2) := by decide +kernel
theorem dX7_store_102 : decode cX7_store 102 = .ok (.iconst 1, 1) := by decide +kernel
theorem dX7_store_103 : decode cX7_store 103 = .ok (.iadd, 1) := by decide +kernel
theorem dX7_store_104 : decode cX7_store 104 = .ok (.aload_n 0, 1) := by decide +kernel
theorem dX7_store_105 : decode cX7_store 105 = .ok (.getfield 20, 3) := by decide +kernel
theorem dX7_store_108 : decode cX7_store 108 = .ok (.iload 6, 2) := by decide +kernel
theorem dX7_store_110 : decode cX7_store 110 = .ok (.iaload, 1) := by decide +kernel
theorem dX7_store_111 : decode cX7_store 111 = .ok (.iconst 5, 1) := by decide +kernel
theorem dX7_store_112 : decode cX7_store 112 = .ok (.if_icmp .lt 8, 3) := by decide +kernel
theorem dX7_store_115 : decode cX7_store 115 = .ok (.iload 5, 2) := by decide +kernel
theorem dX7_store_117 : decode cX7_store 117 = .ok (.goto 15, 3) := by decide +kernel
theorem dX7_store_120 : decode cX7_store 120 = .ok (.aload_n 0, 1) := by decide +kernel
theorem dX7_store_121 : decode cX7_store 121 = .ok (.getfield 35, 3) := by decide +kernel
theorem dX7_store_124 : decode cX7_store 124 = .ok (.aload_n 0, 1) := by decide +kernel
theorem dX7_store_125 : decode cX7_store 125 = .ok (.getfield 23, 3) := by decide +kernel
theorem dX7_store_128 : decode cX7_store 128 = .ok (.iload 6, 2) := by decide +kernel
theorem dX7_store_130 : decode cX7_store 130 = .ok (.iaload, 1) := by decide +kernel
theorem dX7_store_131 : decode cX7_store 131 = .ok (.iaload, 1) := by decide +kernel
theorem dX7_store_132 : decode cX7_store 132 = .ok (.iastore, 1) := by decide +kernel
theorem dX7_store_133 : decode cX7_store 133 = .ok (.aload_n 0, 1) := by decide +kernel
theorem dX7_store_134 : decode cX7_store 134 = .ok (.getfield 7, 3) := by decide +kernel
theorem dX7_store_137 : decode cX7_store 137 = .ok (.iload 7, 2) := by decide +kernel
theorem dX7_store_139 : decode cX7_store 139 = .ok (.iconst 2, 1) := by decide +kernel
theorem dX7_store_140 : decode cX7_store 140 = .ok (.iadd, 1) := by decide +kernel
theorem dX7_store_141 : decode cX7_store 141 = .ok (.aload_n 0, 1) := by decide +kernel
theorem dX7_store_142 : decode cX7_store 142 = .ok (.getfield 20, 3) := by decide +kernel
theorem dX7_store_145 : decode cX7_store 145 = .ok (.iload 6, 2) := by decide +kernel
theorem dX7_store_147 : decode cX7_store 147 = .ok (.iaload, 1) := by decide +kernel
theorem dX7_store_148 : decode cX7_store 148 = .ok (.iconst 5, 1) := by decide +kernel
theorem dX7_store_149 : decode cX7_store 149 = .ok (.if_icmp .lt 13, 3) := by decide +kernel
theorem dX7_store_152 : decode cX7_store 152 = .ok (.aload_n 0, 1) := by decide +kernel
theorem dX7_store_153 : decode cX7_store 153 = .ok (.getfield 26, 3) := by decide +kernel
theorem dX7_store_156 : decode cX7_store 156 = .ok (.iload 6, 2) := by decide +kernel
theorem dX7_store_158 : decode cX7_store 158 = .ok (.iaload, 1) := by decide +kernel
theorem dX7_store_159 : decode cX7_store 159 = .ok (.goto 15, 3) := by decide +kernel
theorem dX7_store_162 : decode cX7_store 162 = .ok (.aload_n 0, 1) := by decide +kernel
theorem dX7_store_163 : decode cX7_store 163 = .ok (.getfield 35, 3) := by decide +kernel
theorem dX7_store_166 : decode cX7_store 166 = .ok (.aload_n 0, 1) := by decide +kernel
theorem dX7_store_167 : decode cX7_store 167 = .ok (.getfield 26, 3) := by decide +kernel
theorem dX7_store_170 : decode cX7_store 170 = .ok (.iload 6, 2) := by decide +kernel
theorem dX7_store_172 : decode cX7_store 172 = .ok (.iaload, 1) := by decide +kernel
theorem dX7_store_173 : decode cX7_store 173 = .ok (.iaload, 1) := by decide +kernel
theorem dX7_store_174 : decode cX7_store 174 = .ok (.iastore, 1) := by decide +kernel
theorem dX7_store_175 : decode cX7_store 175 = .ok (.iconst 0, 1) := by decide +kernel
theorem dX7_store_176 : decode cX7_store 176 = .ok (.istore 8, 2) := by decide +kernel
theorem dX7_store_178 : decode cX7_store 178 = .ok (.iload 8, 2) := by decide +kernel
theorem dX7_store_180 : decode cX7_store 180 = .ok (.aload_n 0, 1) := by decide +kernel
theorem dX7_store_181 : decode cX7_store 181 = .ok (.getfield 26, 3) := by decide +kernel
theorem dX7_store_184 : decode cX7_store 184 = .ok (.iload 6, 2) := by decide +kernel
theorem dX7_store_186 : decode cX7_store 186 = .ok (.iaload, 1) := by decide +kernel
theorem dX7_store_187 : decode cX7_store 187 = .ok (.if_icmp .ge 59, 3) := by decide +kernel
theorem dX7_store_190 : decode cX7_store 190 = .ok (.aload_n 0, 1) := by decide +kernel
theorem dX7_store_191 : decode cX7_store 191 = .ok (.getfield 20, 3) := by decide +kernel
theorem dX7_store_194 : decode cX7_store 194 = .ok (.iload 6, 2) := by decide +kernel
theorem dX7_store_196 : decode cX7_store 196 = .ok (.iaload, 1) := by decide +kernel
theorem dX7_store_197 : decode cX7_store 197 = .ok (.iconst 5, 1) := by decide +kernel
theorem dX7_store_198 : decode cX7_store 198 = .ok (.if_icmp .lt 48, 3) := by decide +kernel
theorem dX7_store_201 : decode cX7_store 201 = .ok (.aload_n 0, 1) := by decide +kernel
theorem dX7_store_202 : decode cX7_store 202 = .ok (.getfield 7, 3) := by decide +kernel
theorem dX7_store_205 : decode cX7_store 205 = .ok (.iload_n 1, 1) := by decide +kernel
theorem dX7_store_206 : decode cX7_store 206 = .ok (.iload_n 2, 1) := by decide +kernel
theorem dX7_store_207 : decode cX7_store 207 = .ok (.sipush 362, 3) := by decide +kernel
theorem dX7_store_210 : decode cX7_store 210 = .ok (.iload 5, 2) := by decide +kernel
theorem dX7_store_212 : decode cX7_store 212 = .ok (.iadd, 1) := by decide +kernel
theorem dX7_store_213 : decode cX7_store 213 = .ok (.invokestatic 150, 3) := by decide +kernel
theorem dX7_store_216 : decode cX7_store 216 = .ok (.aload_n 0, 1) := by decide +kernel
theorem dX7_store_217 : decode cX7_store 217 = .ok (.getfield 35, 3) := by decide +kernel
theorem dX7_store_220 : decode cX7_store 220 = .ok (.aload_n 0, 1) := by decide +kernel
theorem dX7_store_221 : decode cX7_store 221 = .ok (.getfield 43, 3) := by decide +kernel
theorem dX7_store_224 : decode cX7_store 224 = .ok (.aload_n 0, 1) := by decide +kernel
theorem dX7_store_225 : decode cX7_store 225 = .ok (.getfield 23, 3) := by decide +kernel
theorem dX7_store_228 : decode cX7_store 228 = .ok (.iload 6, 2) := by decide +kernel
theorem dX7_store_230 : decode cX7_store 230 = .ok (.iaload, 1) := by decide +kernel
theorem dX7_store_231 : decode cX7_store 231 = .ok (.iload 8, 2) := by decide +kernel
theorem dX7_store_233 : decode cX7_store 233 = .ok (.iadd, 1) := by decide +kernel
theorem dX7_store_234 : decode cX7_store 234 = .ok (.iaload, 1) := by decide +kernel
theorem dX7_store_235 : decode cX7_store 235 = .ok (.iaload, 1) := by decide +kernel
theorem dX7_store_236 : decode cX7_store 236 = .ok (.iastore, 1) := by decide +kernel
theorem dX7_store_237 : decode cX7_store 237 = .ok (.iinc 5 1, 3) := by decide +kernel
theorem dX7_store_240 : decode cX7_store 240 = .ok (.iinc 8 1, 3) := by decide +kernel
theorem dX7_store_243 : decode cX7_store 243 = .ok (.goto (-65), 3) := by decide +kernel
theorem dX7_store_246 : decode cX7_store 246 = .ok (.iinc 4 1, 3) := by decide +kernel
theorem dX7_store_249 : decode cX7_store 249 = .ok (.iinc 6 1, 3) := by decide +kernel
theorem dX7_store_252 : decode cX7_store 252 = .ok (.goto (-211), 3) := by decide +kernel
theorem dX7_store_255 : decode cX7_store 255 = .ok (.aload_n 0, 1) := by decide +kernel
theorem dX7_store_256 : decode cX7_store 256 = .ok (.getfield 7, 3) := by decide +kernel
theorem dX7_store_259 : decode cX7_store 259 = .ok (.iload_n 1, 1) := by decide +kernel
theorem dX7_store_260 : decode cX7_store 260 = .ok (.iload_n 2, 1) := by decide +kernel
theorem dX7_store_261 : decode cX7_store 261 = .ok (.iconst 0, 1) := by decide +kernel
theorem dX7_store_262 : decode cX7_store 262 = .ok (.invokestatic 150, 3) := by decide +kernel
theorem dX7_store_265 : decode cX7_store 265 = .ok (.aload_n 0, 1) := by decide +kernel
theorem dX7_store_266 : decode cX7_store 266 = .ok (.getfield 35, 3) := by decide +kernel
theorem dX7_store_269 : decode cX7_store 269 = .ok (.iload_n 3, 1) := by decide +kernel
theorem dX7_store_270 : decode cX7_store 270 = .ok (.iaload, 1) := by decide +kernel
theorem dX7_store_271 : decode cX7_store 271 = .ok (.iastore, 1) := by decide +kernel
theorem dX7_store_272 : decode cX7_store 272 = .ok (.aload_n 0, 1) := by decide +kernel
theorem dX7_store_273 : decode cX7_store 273 = .ok (.getfield 7, 3) := by decide +kernel
theorem dX7_store_276 : decode cX7_store 276 = .ok (.iload_n 1, 1) := by decide +kernel
theorem dX7_store_277 : decode cX7_store 277 = .ok (.iload_n 2, 1) := by decide +kernel
theorem dX7_store_278 : decode cX7_store 278 = .ok (.iconst 1, 1) := by decide +kernel
theorem dX7_store_279 : decode cX7_store 279 = .ok (.invokestatic 150, 3) := by decide +kernel
theorem dX7_store_282 : decode cX7_store 282 = .ok (.iload 4, 2) := by decide +kernel
theorem dX7_store_284 : decode cX7_store 284 = .ok (.bipush 16, 2) := by decide +kernel
theorem dX7_store_286 : decode cX7_store 286 = .ok (.isub, 1) := by decide +kernel
theorem dX7_store_287 : decode cX7_store 287 = .ok (.iastore, 1) := by decide +kernel
theorem dX7_store_288 : decode cX7_store 288 = .ok (.return_, 1) := by decide +kernel
theorem dX7_load_0 : decode cX7_load 0 = .ok (.aload_n 0, 1) := by decide +kernel
theorem dX7_load_1 : decode cX7_load 1 = .ok (.getfield 7, 3) := by decide +kernel
theorem dX7_load_4 : decode cX7_load 4 = .ok (.iload_n 1, 1) := by decide +kernel
theorem dX7_load_5 : decode cX7_load 5 = .ok (.iload_n 2, 1) := by decide +kernel
theorem dX7_load_6 : decode cX7_load 6 = .ok (.iconst 1, 1) := by decide +kernel
theorem dX7_load_7 : decode cX7_load 7 = .ok (.invokestatic 150, 3) := by decide +kernel
theorem dX7_load_10 : decode cX7_load 10 = .ok (.iaload, 1) := by decide +kernel
theorem dX7_load_11 : decode cX7_load 11 = .ok (.istore_n 3, 1) := by decide +kernel
theorem dX7_load_12 : decode cX7_load 12 = .ok (.iconst 0, 1) := by decide +kernel
theorem dX7_load_13 : decode cX7_load 13 = .ok (.istore 4, 2) := by decide +kernel
theorem dX7_load_15 : decode cX7_load 15 = .ok (.iload 4, 2) := by decide +kernel
theorem dX7_load_17 : decode cX7_load 17 = .ok (.bipush 16, 2) := by decide +kernel
theorem dX7_load_19 : decode cX7_load 19 = .ok (.if_icmp .ge 18, 3) := by decide +kernel
theorem dX7_load_22 : decode cX7_load 22 = .ok (.aload_n 0, 1) := by decide +kernel
theorem dX7_load_23 : decode cX7_load 23 = .ok (.getfield 35, 3) := by decide +kernel
theorem dX7_load_26 : decode cX7_load 26 = .ok (.iload 4, 2) := by decide +kernel
theorem dX7_load_28 : decode cX7_load 28 = .ok (.iload 4, 2) := by decide +kernel
theorem dX7_load_30 : decode cX7_load 30 = .ok (.iastore, 1) := by decide +kernel
theorem dX7_load_31 : decode cX7_load 31 = .ok (.iinc 4 1, 3) := by decide +kernel
theorem dX7_load_34 : decode cX7_load 34 = .ok (.goto (-19), 3) := by decide +kernel
theorem dX7_load_37 : decode cX7_load 37 = .ok (.iconst 0, 1) := by decide +kernel
theorem dX7_load_38 : decode cX7_load 38 = .ok (.istore 4, 2) := by decide +kernel
theorem dX7_load_40 : decode cX7_load 40 = .ok (.iload 4, 2) := by decide +kernel
theorem dX7_load_42 : decode cX7_load 42 = .ok (.iload_n 3, 1) := by decide +kernel
theorem dX7_load_43 : decode cX7_load 43 = .ok (.if_icmp .ge 175, 3) := by decide +kernel
theorem dX7_load_46 : decode cX7_load 46 = .ok (.iload_n 1, 1) := by decide +kernel
theorem dX7_load_47 : decode cX7_load 47 = .ok (.iload_n 2, 1) := by decide +kernel
theorem dX7_load_48 : decode cX7_load 48 = .ok (.iconst 2, 1) := by decide +kernel
theorem dX7_load_49 : decode cX7_load 49 = .ok (.iconst 3, 1) := by decide +kernel
theorem dX7_load_50 : decode cX7_load 50 = .ok (.iload 4, 2) := by decide +kernel
theorem dX7_load_52 : decode cX7_load 52 = .ok (.imul, 1) := by decide +kernel
theorem dX7_load_53 : decode cX7_load 53 = .ok (.iadd, 1) := by decide +kernel
theorem dX7_load_54 : decode cX7_load 54 = .ok (.invokestatic 150, 3) := by decide +kernel
theorem dX7_load_57 : decode cX7_load 57 = .ok (.istore 5, 2) := by decide +kernel
theorem dX7_load_59 : decode cX7_load 59 = .ok (.aload_n 0, 1) := by decide +kernel
theorem dX7_load_60 : decode cX7_load 60 = .ok (.getfield 7, 3) := by decide +kernel
theorem dX7_load_63 : decode cX7_load 63 = .ok (.iload 5, 2) := by decide +kernel
theorem dX7_load_65 : decode cX7_load 65 = .ok (.iaload, 1) := by decide +kernel
theorem dX7_load_66 : decode cX7_load 66 = .ok (.iconst 5, 1) := by decide +kernel
theorem dX7_load_67 : decode cX7_load 67 = .ok (.if_icmp .lt 96, 3) := by decide +kernel
theorem dX7_load_70 : decode cX7_load 70 = .ok (.aload_n 0, 1) := by decide +kernel
theorem dX7_load_71 : decode cX7_load 71 = .ok (.aload_n 0, 1) := by decide +kernel
theorem dX7_load_72 : decode cX7_load 72 = .ok (.getfield 7, 3) := by decide +kernel
theorem dX7_load_75 : decode cX7_load 75 = .ok (.iload 5, 2) := by decide +kernel
theorem dX7_load_77 : decode cX7_load 77 = .ok (.iconst 2, 1) := by decide +kernel
theorem dX7_load_78 : decode cX7_load 78 = .ok (.iadd, 1) := by decide +kernel
theorem dX7_load_79 : decode cX7_load 79 = .ok (.iaload, 1) := by decide +kernel
theorem dX7_load_80 : decode cX7_load 80 = .ok (.putfield 84, 3) := by decide +kernel
theorem dX7_load_83 : decode cX7_load 83 = .ok (.iconst 0, 1) := by decide +kernel
theorem dX7_load_84 : decode cX7_load 84 = .ok (.istore 6, 2) := by decide +kernel
theorem dX7_load_86 : decode cX7_load 86 = .ok (.iload 6, 2) := by decide +kernel
theorem dX7_load_88 : decode cX7_load 88 = .ok (.aload_n 0, 1) := by decide +kernel
theorem dX7_load_89 : decode cX7_load 89 = .ok (.getfield 84, 3) := by decide +kernel
theorem dX7_load_92 : decode cX7_load 92 = .ok (.if_icmp .ge 47, 3) := by decide +kernel
theorem dX7_load_95 : decode cX7_load 95 = .ok (.aload_n 0, 1) := by decide +kernel
theorem dX7_load_96 : decode cX7_load 96 = .ok (.getfield 46, 3) := by decide +kernel
theorem dX7_load_99 : decode cX7_load 99 = .ok (.iload 6, 2) := by decide +kernel
theorem dX7_load_101 : decode cX7_load 101 = .ok (.aload_n 0, 1) := by decide +kernel
theorem dX7_load_102 : decode cX7_load 102 = .ok (.getfield 35, 3) := by decide +kernel
theorem dX7_load_105 : decode cX7_load 105 = .ok (.aload_n 0, 1) := by decide +kernel
theorem dX7_load_106 : decode cX7_load 106 = .ok (.getfield 7, 3) := by decide +kernel
theorem dX7_load_109 : decode cX7_load 109 = .ok (.iload_n 1, 1) := by decide +kernel
theorem dX7_load_110 : decode cX7_load 110 = .ok (.iload_n 2, 1) := by decide +kernel
theorem dX7_load_111 : decode cX7_load 111 = .ok (.sipush 362, 3) := by decide +kernel
theorem dX7_load_114 : decode cX7_load 114 = .ok (.aload_n 0, 1) := by decide +kernel
theorem dX7_load_115 : decode cX7_load 115 = .ok (.getfield 7, 3) := by decide +kernel
theorem dX7_load_118 : decode cX7_load 118 = .ok (.iload 5, 2) := by decide +kernel
theorem dX7_load_120 : decode cX7_load 120 = .ok (.iconst 1, 1) := by decide +kernel
theorem dX7_load_121 : decode cX7_load 121 = .ok (.iadd, 1) := by decide +kernel
theorem dX7_load_122 : decode cX7_load 122 = .ok (.iaload, 1) := by decide +kernel
theorem dX7_load_123 : decode cX7_load 123 = .ok (.iadd, 1) := by decide +kernel
theorem dX7_load_124 : decode cX7_load 124 = .ok (.iload 6, 2) := by decide +kernel
theorem dX7_load_126 : decode cX7_load 126 = .ok (.iadd, 1) := by decide +kernel
theorem dX7_load_127 : decode cX7_load 127 = .ok (.invokestatic 150, 3) := by decide +kernel
theorem dX7_load_130 : decode cX7_load 130 = .ok (.iaload, 1) := by decide +kernel
theorem dX7_load_131 : decode cX7_load 131 = .ok (.iaload, 1) := by decide +kernel
theorem dX7_load_132 : decode cX7_load 132 = .ok (.iastore, 1) := by decide +kernel
theorem dX7_load_133 : decode cX7_load 133 = .ok (.iinc 6 1, 3) := by decide +kernel
theorem dX7_load_136 : decode cX7_load 136 = .ok (.goto (-50), 3) := by decide +kernel
theorem dX7_load_139 : decode cX7_load 139 = .ok (.aload_n 0, 1) := by decide +kernel
theorem dX7_load_140 : decode cX7_load 140 = .ok (.getfield 35, 3) := by decide +kernel
theorem dX7_load_143 : decode cX7_load 143 = .ok (.bipush 16, 2) := by decide +kernel
theorem dX7_load_145 : decode cX7_load 145 = .ok (.iload 4, 2) := by decide +kernel
theorem dX7_load_147 : decode cX7_load 147 = .ok (.iadd, 1) := by decide +kernel
theorem dX7_load_148 : decode cX7_load 148 = .ok (.aload_n 0, 1) := by decide +kernel
theorem dX7_load_149 : decode cX7_load 149 = .ok (.aload_n 0, 1) := by decide +kernel
theorem dX7_load_150 : decode cX7_load 150 = .ok (.getfield 7, 3) := by decide +kernel
theorem dX7_load_153 : decode cX7_load 153 = .ok (.iload 5, 2) := by decide +kernel
theorem dX7_load_155 : decode cX7_load 155 = .ok (.iaload, 1) := by decide +kernel
theorem dX7_load_156 : decode cX7_load 156 = .ok (.invokevirtual 118, 3) := by decide +kernel
theorem dX7_load_159 : decode cX7_load 159 = .ok (.iastore, 1) := by decide +kernel
theorem dX7_load_160 : decode cX7_load 160 = .ok (.goto 52, 3) := by decide +kernel
theorem dX7_load_163 : decode cX7_load 163 = .ok (.aload_n 0, 1) := by decide +kernel
theorem dX7_load_164 : decode cX7_load 164 = .ok (.getfield 35, 3) := by decide +kernel
theorem dX7_load_167 : decode cX7_load 167 = .ok (.bipush 16, 2) := by decide +kernel
theorem dX7_load_169 : decode cX7_load 169 = .ok (.iload 4, 2) := by decide +kernel
theorem dX7_load_171 : decode cX7_load 171 = .ok (.iadd, 1) := by decide +kernel
theorem dX7_load_172 : decode cX7_load 172 = .ok (.aload_n 0, 1) := by decide +kernel
theorem dX7_load_173 : decode cX7_load 173 = .ok (.aload_n 0, 1) := by decide +kernel
theorem dX7_load_174 : decode cX7_load 174 = .ok (.getfield 7, 3) := by decide +kernel
theorem dX7_load_177 : decode cX7_load 177 = .ok (.iload 5, 2) := by decide +kernel
theorem dX7_load_179 : decode cX7_load 179 = .ok (.iaload, 1) := by decide +kernel
theorem dX7_load_180 : decode cX7_load 180 = .ok (.aload_n 0, 1) := by decide +kernel
theorem dX7_load_181 : decode cX7_load 181 = .ok (.getfield 35, 3) := by decide +kernel
theorem dX7_load_184 : decode cX7_load 184 = .ok (.aload_n 0, 1) := by decide +kernel
theorem dX7_load_185 : decode cX7_load 185 = .ok (.getfield 7, 3) := by decide +kernel
theorem dX7_load_188 : decode cX7_load 188 = .ok (.iload 5, 2) := by decide +kernel
theorem dX7_load_190 : decode cX7_load 190 = .ok (.iconst 1, 1) := by decide +kernel
theorem dX7_load_191 : decode cX7_load 191 = .ok (.iadd, 1) := by decide +kernel
theorem dX7_load_192 : decode cX7_load 192 = .ok (.iaload, 1) := by decide +kernel
theorem dX7_load_193 : decode cX7_load 193 = .ok (.iaload, 1) := by decide +kernel
theorem dX7_load_194 : decode cX7_load 194 = .ok (.aload_n 0, 1) := by decide +kernel
theorem dX7_load_195 : decode cX7_load 195 = .ok (.getfield 35, 3) := by decide +kernel
theorem dX7_load_198 : decode cX7_load 198 = .ok (.aload_n 0, 1) := by decide +kernel
theorem dX7_load_199 : decode cX7_load 199 = .ok (.getfield 7, 3) := by decide +kernel
theorem dX7_load_202 : decode cX7_load 202 = .ok (.iload 5, 2) := by decide +kernel
theorem dX7_load_204 : decode cX7_load 204 = .ok (.iconst 2, 1) := by decide +kernel
theorem dX7_load_205 : decode cX7_load 205 = .ok (.iadd, 1) := by decide +kernel
theorem dX7_load_206 : decode cX7_load 206 = .ok (.iaload, 1) := by decide +kernel
theorem dX7_load_207 : decode cX7_load 207 = .ok (.iaload, 1) := by decide +kernel
theorem dX7_load_208 : decode cX7_load 208 = .ok (.invokevirtual 147, 3) := by decide +kernel
theorem dX7_load_211 : decode cX7_load 211 = .ok (.iastore, 1) := by decide +kernel
theorem dX7_load_212 : decode cX7_load 212 = .ok (.iinc 4 1, 3) := by decide +kernel
theorem dX7_load_215 : decode cX7_load 215 = .ok (.goto (-175), 3) := by decide +kernel
theorem dX7_load_218 : decode cX7_load 218 = .ok (.aload_n 0, 1) := by decide +kernel
theorem dX7_load_219 : decode cX7_load 219 = .ok (.getfield 35, 3) := by decide +kernel
theorem dX7_load_222 : decode cX7_load 222 = .ok (.aload_n 0, 1) := by decide +kernel
theorem dX7_load_223 : decode cX7_load 223 = .ok (.getfield 7, 3) := by decide +kernel
theorem dX7_load_226 : decode cX7_load 226 = .ok (.iload_n 1, 1) := by decide +kernel
theorem dX7_load_227 : decode cX7_load 227 = .ok (.iload_n 2, 1) := by decide +kernel
theorem dX7_load_228 : decode cX7_load 228 = .ok (.iconst 0, 1) := by decide +kernel
theorem dX7_load_229 : decode cX7_load 229 = .ok (.invokestatic 150, 3) := by decide +kernel
theorem dX7_load_232 : decode cX7_load 232 = .ok (.iaload, 1) := by decide +kernel
theorem dX7_load_233 : decode cX7_load 233 = .ok (.iaload, 1) := by decide +kernel
theorem dX7_load_234 : decode cX7_load 234 = .ok (.ireturn, 1) := by decide +kernel
theorem dX7_loadAlone_0 : decode cX7_loadAlone 0 = .ok (.aload_n 0, 1) := by decide +kernel
theorem dX7_loadAlone_1 : decode cX7_loadAlone 1 = .ok (.invokevirtual 62, 3) := by decide +kernel
theorem dX7_loadAlone_4 : decode cX7_loadAlone 4 = .ok (.aload_n 0, 1) := by decide +kernel
theorem dX7_loadAlone_5 : decode cX7_loadAlone 5 = .ok (.iload_n 1, 1) := by decide +kernel
theorem dX7_loadAlone_6 : decode cX7_loadAlone 6 = .ok (.iload_n 2, 1) := by decide +kernel
theorem dX7_loadAlone_7 : decode cX7_loadAlone 7 = .ok (.invokevirtual 153, 3) := by decide +kernel
theorem dX7_loadAlone_10 : decode cX7_loadAlone 10 = .ok (.ireturn, 1) := by decide +kernel
theorem dX7_formOf_0 : decode cX7_formOf 0 = .ok (.aload_n 0, 1) := by decide +kernel
theorem dX7_formOf_1 : decode cX7_formOf 1 = .ok (.getfield 7, 3) := by decide +kernel
theorem dX7_formOf_4 : decode cX7_formOf 4 = .ok (.iload_n 1, 1) := by decide +kernel
theorem dX7_formOf_5 : decode cX7_formOf 5 = .ok (.iload_n 2, 1) := by decide +kernel
theorem dX7_formOf_6 : decode cX7_formOf 6 = .ok (.iconst 0, 1) := by decide +kernel
theorem dX7_formOf_7 : decode cX7_formOf 7 = .ok (.invokestatic 150, 3) := by decide +kernel
theorem dX7_formOf_10 : decode cX7_formOf 10 = .ok (.iaload, 1) := by decide +kernel
theorem dX7_formOf_11 : decode cX7_formOf 11 = .ok (.ireturn, 1) := by decide +kernel
theorem dX7_partsThat_0 : decode cX7_partsThat 0 = .ok (.iconst 0, 1) := by decide +kernel
theorem dX7_partsThat_1 : decode cX7_partsThat 1 = .ok (.istore_n 3, 1) := by decide +kernel
theorem dX7_partsThat_2 : decode cX7_partsThat 2 = .ok (.iconst 0, 1) := by decide +kernel
theorem dX7_partsThat_3 : decode cX7_partsThat 3 = .ok (.istore 4, 2) := by decide +kernel
theorem dX7_partsThat_5 : decode cX7_partsThat 5 = .ok (.iload 4, 2) := by decide +kernel
theorem dX7_partsThat_7 : decode cX7_partsThat 7 = .ok (.aload_n 0, 1) := by decide +kernel
theorem dX7_partsThat_8 : decode cX7_partsThat 8 = .ok (.getfield 7, 3) := by decide +kernel
theorem dX7_partsThat_11 : decode cX7_partsThat 11 = .ok (.iload_n 1, 1) := by decide +kernel
theorem dX7_partsThat_12 : decode cX7_partsThat 12 = .ok (.invokestatic 74, 3) := by decide +kernel
theorem dX7_partsThat_15 : decode cX7_partsThat 15 = .ok (.iconst 5, 1) := by decide +kernel
theorem dX7_partsThat_16 : decode cX7_partsThat 16 = .ok (.iadd, 1) := by decide +kernel
theorem dX7_partsThat_17 : decode cX7_partsThat 17 = .ok (.iaload, 1) := by decide +kernel
theorem dX7_partsThat_18 : decode cX7_partsThat 18 = .ok (.if_icmp .ge 31, 3) := by decide +kernel
theorem dX7_partsThat_21 : decode cX7_partsThat 21 = .ok (.iload_n 3, 1) := by decide +kernel
theorem dX7_partsThat_22 : decode cX7_partsThat 22 = .ok (.aload_n 0, 1) := by decide +kernel
theorem dX7_partsThat_23 : decode cX7_partsThat 23 = .ok (.iload_n 1, 1) := by decide +kernel
theorem dX7_partsThat_24 : decode cX7_partsThat 24 = .ok (.iload 4, 2) := by decide +kernel
theorem dX7_partsThat_26 : decode cX7_partsThat 26 = .ok (.invokevirtual 156, 3) := by decide +kernel
theorem dX7_partsThat_29 : decode cX7_partsThat 29 = .ok (.iload_n 2, 1) := by decide +kernel
theorem dX7_partsThat_30 : decode cX7_partsThat 30 = .ok (.if_icmp .ne 10, 3) := by decide +kernel
theorem dX7_partsThat_33 : decode cX7_partsThat 33 = .ok (.iconst 1, 1) := by decide +kernel
theorem dX7_partsThat_34 : decode cX7_partsThat 34 = .ok (.iload 4, 2) := by decide +kernel
theorem dX7_partsThat_36 : decode cX7_partsThat 36 = .ok (.ishl, 1) := by decide +kernel
theorem dX7_partsThat_37 : decode cX7_partsThat 37 = .ok (.goto 4, 3) := by decide +kernel
theorem dX7_partsThat_40 : decode cX7_partsThat 40 = .ok (.iconst 0, 1) := by decide +kernel
theorem dX7_partsThat_41 : decode cX7_partsThat 41 = .ok (.ior, 1) := by decide +kernel
theorem dX7_partsThat_42 : decode cX7_partsThat 42 = .ok (.istore_n 3, 1) := by decide +kernel
theorem dX7_partsThat_43 : decode cX7_partsThat 43 = .ok (.iinc 4 1, 3) := by decide +kernel
theorem dX7_partsThat_46 : decode cX7_partsThat 46 = .ok (.goto (-41), 3) := by decide +kernel
theorem dX7_partsThat_49 : decode cX7_partsThat 49 = .ok (.iload_n 3, 1) := by decide +kernel
theorem dX7_partsThat_50 : decode cX7_partsThat 50 = .ok (.ireturn, 1) := by decide +kernel
theorem dX7_verdictBy_0 : decode cX7_verdictBy 0 = .ok (.iconst 1, 1) := by decide +kernel
theorem dX7_verdictBy_1 : decode cX7_verdictBy 1 = .ok (.aload_n 0, 1) := by decide +kernel
theorem dX7_verdictBy_2 : decode cX7_verdictBy 2 = .ok (.getfield 7, 3) := by decide +kernel
theorem dX7_verdictBy_5 : decode cX7_verdictBy 5 = .ok (.iload_n 1, 1) := by decide +kernel
theorem dX7_verdictBy_6 : decode cX7_verdictBy 6 = .ok (.invokestatic 74, 3) := by decide +kernel
theorem dX7_verdictBy_9 : decode cX7_verdictBy 9 = .ok (.iconst 5, 1) := by decide +kernel
theorem dX7_verdictBy_10 : decode cX7_verdictBy 10 = .ok (.iadd, 1) := by decide +kernel
theorem dX7_verdictBy_11 : decode cX7_verdictBy 11 = .ok (.iaload, 1) := by decide +kernel
theorem dX7_verdictBy_12 : decode cX7_verdictBy 12 = .ok (.ishl, 1) := by decide +kernel
theorem dX7_verdictBy_13 : decode cX7_verdictBy 13 = .ok (.iconst 1, 1) := by decide +kernel
theorem dX7_verdictBy_14 : decode cX7_verdictBy 14 = .ok (.isub, 1) := by decide +kernel
theorem dX7_verdictBy_15 : decode cX7_verdictBy 15 = .ok (.istore_n 2, 1) := by decide +kernel
theorem dX7_verdictBy_16 : decode cX7_verdictBy 16 = .ok (.aload_n 0, 1) := by decide +kernel
theorem dX7_verdictBy_17 : decode cX7_verdictBy 17 = .ok (.iload_n 1, 1) := by decide +kernel
theorem dX7_verdictBy_18 : decode cX7_verdictBy 18 = .ok (.iconst 0, 1) := by decide +kernel
theorem dX7_verdictBy_19 : decode cX7_verdictBy 19 = .ok (.invokevirtual 159, 3) := by decide +kernel
theorem dX7_verdictBy_22 : decode cX7_verdictBy 22 = .ok (.ifCond .eq 7, 3) := by decide +kernel
theorem dX7_verdictBy_25 : decode cX7_verdictBy 25 = .ok (.iconst 0, 1) := by decide +kernel
theorem dX7_verdictBy_26 : decode cX7_verdictBy 26 = .ok (.goto 18, 3) := by decide +kernel
theorem dX7_verdictBy_29 : decode cX7_verdictBy 29 = .ok (.aload_n 0, 1) := by decide +kernel
theorem dX7_verdictBy_30 : decode cX7_verdictBy 30 = .ok (.iload_n 1, 1) := by decide +kernel
theorem dX7_verdictBy_31 : decode cX7_verdictBy 31 = .ok (.iconst 1, 1) := by decide +kernel
theorem dX7_verdictBy_32 : decode cX7_verdictBy 32 = .ok (.invokevirtual 159, 3) := by decide +kernel
theorem dX7_verdictBy_35 : decode cX7_verdictBy 35 = .ok (.iload_n 2, 1) := by decide +kernel
theorem dX7_verdictBy_36 : decode cX7_verdictBy 36 = .ok (.if_icmp .ne 7, 3) := by decide +kernel
theorem dX7_verdictBy_39 : decode cX7_verdictBy 39 = .ok (.iconst 1, 1) := by decide +kernel
theorem dX7_verdictBy_40 : decode cX7_verdictBy 40 = .ok (.goto 4, 3) := by decide +kernel
theorem dX7_verdictBy_43 : decode cX7_verdictBy 43 = .ok (.iconst 2, 1) := by decide +kernel
theorem dX7_verdictBy_44 : decode cX7_verdictBy 44 = .ok (.ireturn, 1) := by decide +kernel
theorem dX7_wouldBe_0 : decode cX7_wouldBe 0 = .ok (.aload_n 0, 1) := by decide +kernel
theorem dX7_wouldBe_1 : decode cX7_wouldBe 1 = .ok (.iload_n 1, 1) := by decide +kernel
theorem dX7_wouldBe_2 : decode cX7_wouldBe 2 = .ok (.invokevirtual 162, 3) := by decide +kernel
theorem dX7_wouldBe_5 : decode cX7_wouldBe 5 = .ok (.iconst 2, 1) := by decide +kernel
theorem dX7_wouldBe_6 : decode cX7_wouldBe 6 = .ok (.if_icmp .ge 9, 3) := by decide +kernel
theorem dX7_wouldBe_9 : decode cX7_wouldBe 9 = .ok (.aload_n 0, 1) := by decide +kernel
theorem dX7_wouldBe_10 : decode cX7_wouldBe 10 = .ok (.iload_n 1, 1) := by decide +kernel
theorem dX7_wouldBe_11 : decode cX7_wouldBe 11 = .ok (.invokevirtual 162, 3) := by decide +kernel
theorem dX7_wouldBe_14 : decode cX7_wouldBe 14 = .ok (.ireturn, 1) := by decide +kernel
theorem dX7_wouldBe_15 : decode cX7_wouldBe 15 = .ok (.iconst 1, 1) := by decide +kernel
theorem dX7_wouldBe_16 : decode cX7_wouldBe 16 = .ok (.istore_n 3, 1) := by decide +kernel
theorem dX7_wouldBe_17 : decode cX7_wouldBe 17 = .ok (.iconst 1, 1) := by decide +kernel
theorem dX7_wouldBe_18 : decode cX7_wouldBe 18 = .ok (.istore 4, 2) := by decide +kernel
theorem dX7_wouldBe_20 : decode cX7_wouldBe 20 = .ok (.iconst 0, 1) := by decide +kernel
theorem dX7_wouldBe_21 : decode cX7_wouldBe 21 = .ok (.istore 5, 2) := by decide +kernel
theorem dX7_wouldBe_23 : decode cX7_wouldBe 23 = .ok (.iload 5, 2) := by decide +kernel
theorem dX7_wouldBe_25 : decode cX7_wouldBe 25 = .ok (.aload_n 0, 1) := by decide +kernel
theorem dX7_wouldBe_26 : decode cX7_wouldBe 26 = .ok (.getfield 7, 3) := by decide +kernel
theorem dX7_wouldBe_29 : decode cX7_wouldBe 29 = .ok (.iload_n 1, 1) := by decide +kernel
theorem dX7_wouldBe_30 : decode cX7_wouldBe 30 = .ok (.invokestatic 74, 3) := by decide +kernel
theorem dX7_wouldBe_33 : decode cX7_wouldBe 33 = .ok (.iconst 5, 1) := by decide +kernel
theorem dX7_wouldBe_34 : decode cX7_wouldBe 34 = .ok (.iadd, 1) := by decide +kernel
theorem dX7_wouldBe_35 : decode cX7_wouldBe 35 = .ok (.iaload, 1) := by decide +kernel
theorem dX7_wouldBe_36 : decode cX7_wouldBe 36 = .ok (.if_icmp .ge 56, 3) := by decide +kernel
theorem dX7_wouldBe_39 : decode cX7_wouldBe 39 = .ok (.aload_n 0, 1) := by decide +kernel
theorem dX7_wouldBe_40 : decode cX7_wouldBe 40 = .ok (.aload_n 0, 1) := by decide +kernel
theorem dX7_wouldBe_41 : decode cX7_wouldBe 41 = .ok (.iload_n 1, 1) := by decide +kernel
theorem dX7_wouldBe_42 : decode cX7_wouldBe 42 = .ok (.iload 5, 2) := by decide +kernel
theorem dX7_wouldBe_44 : decode cX7_wouldBe 44 = .ok (.invokevirtual 165, 3) := by decide +kernel
theorem dX7_wouldBe_47 : decode cX7_wouldBe 47 = .ok (.iload_n 2, 1) := by decide +kernel
theorem dX7_wouldBe_48 : decode cX7_wouldBe 48 = .ok (.invokevirtual 168, 3) := by decide +kernel
theorem dX7_wouldBe_51 : decode cX7_wouldBe 51 = .ok (.istore 6, 2) := by decide +kernel
theorem dX7_wouldBe_53 : decode cX7_wouldBe 53 = .ok (.iload_n 3, 1) := by decide +kernel
theorem dX7_wouldBe_54 : decode cX7_wouldBe 54 = .ok (.ifCond .eq 13, 3) := by decide +kernel
theorem dX7_wouldBe_57 : decode cX7_wouldBe 57 = .ok (.iload 6, 2) := by decide +kernel
theorem dX7_wouldBe_59 : decode cX7_wouldBe 59 = .ok (.iconst 1, 1) := by decide +kernel
theorem dX7_wouldBe_60 : decode cX7_wouldBe 60 = .ok (.if_icmp .ne 7, 3) := by decide +kernel
theorem dX7_wouldBe_63 : decode cX7_wouldBe 63 = .ok (.iconst 1, 1) := by decide +kernel
theorem dX7_wouldBe_64 : decode cX7_wouldBe 64 = .ok (.goto 4, 3) := by decide +kernel
theorem dX7_wouldBe_67 : decode cX7_wouldBe 67 = .ok (.iconst 0, 1) := by decide +kernel
theorem dX7_wouldBe_68 : decode cX7_wouldBe 68 = .ok (.istore_n 3, 1) := by decide +kernel
theorem dX7_wouldBe_69 : decode cX7_wouldBe 69 = .ok (.iload 4, 2) := by decide +kernel
theorem dX7_wouldBe_71 : decode cX7_wouldBe 71 = .ok (.ifCond .eq 12, 3) := by decide +kernel
theorem dX7_wouldBe_74 : decode cX7_wouldBe 74 = .ok (.iload 6, 2) := by decide +kernel
theorem dX7_wouldBe_76 : decode cX7_wouldBe 76 = .ok (.ifCond .eq 7, 3) := by decide +kernel
theorem dX7_wouldBe_79 : decode cX7_wouldBe 79 = .ok (.iconst 1, 1) := by decide +kernel
theorem dX7_wouldBe_80 : decode cX7_wouldBe 80 = .ok (.goto 4, 3) := by decide +kernel
theorem dX7_wouldBe_83 : decode cX7_wouldBe 83 = .ok (.iconst 0, 1) := by decide +kernel
theorem dX7_wouldBe_84 : decode cX7_wouldBe 84 = .ok (.istore 4, 2) := by decide +kernel
theorem dX7_wouldBe_86 : decode cX7_wouldBe 86 = .ok (.iinc 5 1, 3) := by decide +kernel
theorem dX7_wouldBe_89 : decode cX7_wouldBe 89 = .ok (.goto (-66), 3) := by decide +kernel
theorem dX7_wouldBe_92 : decode cX7_wouldBe 92 = .ok (.iload 4, 2) := by decide +kernel
theorem dX7_wouldBe_94 : decode cX7_wouldBe 94 = .ok (.ifCond .ne 7, 3) := by decide +kernel
theorem dX7_wouldBe_97 : decode cX7_wouldBe 97 = .ok (.iconst 0, 1) := by decide +kernel
theorem dX7_wouldBe_98 : decode cX7_wouldBe 98 = .ok (.goto 12, 3) := by decide +kernel
theorem dX7_wouldBe_101 : decode cX7_wouldBe 101 = .ok (.iload_n 3, 1) := by decide +kernel
theorem dX7_wouldBe_102 : decode cX7_wouldBe 102 = .ok (.ifCond .eq 7, 3) := by decide +kernel
theorem dX7_wouldBe_105 : decode cX7_wouldBe 105 = .ok (.iconst 1, 1) := by decide +kernel
theorem dX7_wouldBe_106 : decode cX7_wouldBe 106 = .ok (.goto 4, 3) := by decide +kernel
theorem dX7_wouldBe_109 : decode cX7_wouldBe 109 = .ok (.iconst 2, 1) := by decide +kernel
theorem dX7_wouldBe_110 : decode cX7_wouldBe 110 = .ok (.ireturn, 1) := by decide +kernel
theorem dX7_blame_0 : decode cX7_blame 0 = .ok (.iconst 0, 1) := by decide +kernel
theorem dX7_blame_1 : decode cX7_blame 1 = .ok (.istore_n 3, 1) := by decide +kernel
theorem dX7_blame_2 : decode cX7_blame 2 = .ok (.iconst 0, 1) := by decide +kernel
theorem dX7_blame_3 : decode cX7_blame 3 = .ok (.istore 4, 2) := by decide +kernel
theorem dX7_blame_5 : decode cX7_blame 5 = .ok (.iload 4, 2) := by decide +kernel
theorem dX7_blame_7 : decode cX7_blame 7 = .ok (.bipush 6, 2) := by decide +kernel
theorem dX7_blame_9 : decode cX7_blame 9 = .ok (.if_icmp .ge 34, 3) := by decide +kernel
theorem dX7_blame_12 : decode cX7_blame 12 = .ok (.iload_n 3, 1) := by decide +kernel
theorem dX7_blame_13 : decode cX7_blame 13 = .ok (.aload_n 0, 1) := by decide +kernel
theorem dX7_blame_14 : decode cX7_blame 14 = .ok (.iload_n 1, 1) := by decide +kernel
theorem dX7_blame_15 : decode cX7_blame 15 = .ok (.iload_n 2, 1) := by decide +kernel
theorem dX7_blame_16 : decode cX7_blame 16 = .ok (.iconst 1, 1) := by decide +kernel
theorem dX7_blame_17 : decode cX7_blame 17 = .ok (.iload 4, 2) := by decide +kernel
theorem dX7_blame_19 : decode cX7_blame 19 = .ok (.ishl, 1) := by decide +kernel
theorem dX7_blame_20 : decode cX7_blame 20 = .ok (.ixor, 1) := by decide +kernel
theorem dX7_blame_21 : decode cX7_blame 21 = .ok (.invokevirtual 171, 3) := by decide +kernel
theorem dX7_blame_24 : decode cX7_blame 24 = .ok (.ifCond .ne 7, 3) := by decide +kernel
theorem dX7_blame_27 : decode cX7_blame 27 = .ok (.iconst 0, 1) := by decide +kernel
theorem dX7_blame_28 : decode cX7_blame 28 = .ok (.goto 7, 3) := by decide +kernel
theorem dX7_blame_31 : decode cX7_blame 31 = .ok (.iconst 1, 1) := by decide +kernel
theorem dX7_blame_32 : decode cX7_blame 32 = .ok (.iload 4, 2) := by decide +kernel
theorem dX7_blame_34 : decode cX7_blame 34 = .ok (.ishl, 1) := by decide +kernel
theorem dX7_blame_35 : decode cX7_blame 35 = .ok (.ior, 1) := by decide +kernel
theorem dX7_blame_36 : decode cX7_blame 36 = .ok (.istore_n 3, 1) := by decide +kernel
theorem dX7_blame_37 : decode cX7_blame 37 = .ok (.iinc 4 1, 3) := by decide +kernel
theorem dX7_blame_40 : decode cX7_blame 40 = .ok (.goto (-35), 3) := by decide +kernel
theorem dX7_blame_43 : decode cX7_blame 43 = .ok (.iload_n 3, 1) := by decide +kernel
theorem dX7_blame_44 : decode cX7_blame 44 = .ok (.ireturn, 1) := by decide +kernel
theorem dX7_isTooGreat_0 : decode cX7_isTooGreat 0 = .ok (.iconst 0, 1) := by decide +kernel
theorem dX7_isTooGreat_1 : decode cX7_isTooGreat 1 = .ok (.istore_n 2, 1) := by decide +kernel
theorem dX7_isTooGreat_2 : decode cX7_isTooGreat 2 = .ok (.iconst 0, 1) := by decide +kernel
theorem dX7_isTooGreat_3 : decode cX7_isTooGreat 3 = .ok (.istore_n 3, 1) := by decide +kernel
theorem dX7_isTooGreat_4 : decode cX7_isTooGreat 4 = .ok (.iload_n 3, 1) := by decide +kernel
theorem dX7_isTooGreat_5 : decode cX7_isTooGreat 5 = .ok (.aload_n 0, 1) := by decide +kernel
theorem dX7_isTooGreat_6 : decode cX7_isTooGreat 6 = .ok (.getfield 7, 3) := by decide +kernel
theorem dX7_isTooGreat_9 : decode cX7_isTooGreat 9 = .ok (.iconst 2, 1) := by decide +kernel
theorem dX7_isTooGreat_10 : decode cX7_isTooGreat 10 = .ok (.iaload, 1) := by decide +kernel
theorem dX7_isTooGreat_11 : decode cX7_isTooGreat 11 = .ok (.if_icmp .ge 74, 3) := by decide +kernel
theorem dX7_isTooGreat_14 : decode cX7_isTooGreat 14 = .ok (.iconst 0, 1) := by decide +kernel
theorem dX7_isTooGreat_15 : decode cX7_isTooGreat 15 = .ok (.istore 4, 2) := by decide +kernel
theorem dX7_isTooGreat_17 : decode cX7_isTooGreat 17 = .ok (.iload 4, 2) := by decide +kernel
theorem dX7_isTooGreat_19 : decode cX7_isTooGreat 19 = .ok (.aload_n 0, 1) := by decide +kernel
theorem dX7_isTooGreat_20 : decode cX7_isTooGreat 20 = .ok (.getfield 7, 3) := by decide +kernel
theorem dX7_isTooGreat_23 : decode cX7_isTooGreat 23 = .ok (.iload_n 3, 1) := by decide +kernel
theorem dX7_isTooGreat_24 : decode cX7_isTooGreat 24 = .ok (.invokestatic 74, 3) := by decide +kernel
theorem dX7_isTooGreat_27 : decode cX7_isTooGreat 27 = .ok (.iconst 5, 1) := by decide +kernel
theorem dX7_isTooGreat_28 : decode cX7_isTooGreat 28 = .ok (.iadd, 1) := by decide +kernel
theorem dX7_isTooGreat_29 : decode cX7_isTooGreat 29 = .ok (.iaload, 1) := by decide +kernel
theorem dX7_isTooGreat_30 : decode cX7_isTooGreat 30 = .ok (.if_icmp .ge 49, 3) := by decide +kernel
theorem dX7_isTooGreat_33 : decode cX7_isTooGreat 33 = .ok (.aload_n 0, 1) := by decide +kernel
theorem dX7_isTooGreat_34 : decode cX7_isTooGreat 34 = .ok (.iload_n 3, 1) := by decide +kernel
theorem dX7_isTooGreat_35 : decode cX7_isTooGreat 35 = .ok (.invokevirtual 174, 3) := by decide +kernel
theorem dX7_isTooGreat_38 : decode cX7_isTooGreat 38 = .ok (.ifCond .eq 41, 3) := by decide +kernel
theorem dX7_isTooGreat_41 : decode cX7_isTooGreat 41 = .ok (.iload_n 2, 1) := by decide +kernel
theorem dX7_isTooGreat_42 : decode cX7_isTooGreat 42 = .ok (.ifCond .ne 37, 3) := by decide +kernel
theorem dX7_isTooGreat_45 : decode cX7_isTooGreat 45 = .ok (.aload_n 0, 1) := by decide +kernel
theorem dX7_isTooGreat_46 : decode cX7_isTooGreat 46 = .ok (.getfield 29, 3) := by decide +kernel
theorem dX7_isTooGreat_49 : decode cX7_isTooGreat 49 = .ok (.aload_n 0, 1) := by decide +kernel
theorem dX7_isTooGreat_50 : decode cX7_isTooGreat 50 = .ok (.aload_n 0, 1) := by decide +kernel
theorem dX7_isTooGreat_51 : decode cX7_isTooGreat 51 = .ok (.iload_n 3, 1) := by decide +kernel
theorem dX7_isTooGreat_52 : decode cX7_isTooGreat 52 = .ok (.iload 4, 2) := by decide +kernel
theorem dX7_isTooGreat_54 : decode cX7_isTooGreat 54 = .ok (.invokevirtual 165, 3) := by decide +kernel
theorem dX7_isTooGreat_57 : decode cX7_isTooGreat 57 = .ok (.iload_n 1, 1) := by decide +kernel
theorem dX7_isTooGreat_58 : decode cX7_isTooGreat 58 = .ok (.invokevirtual 168, 3) := by decide +kernel
theorem dX7_isTooGreat_61 : decode cX7_isTooGreat 61 = .ok (.iaload, 1) := by decide +kernel
theorem dX7_isTooGreat_62 : decode cX7_isTooGreat 62 = .ok (.bipush 120, 2) := by decide +kernel
theorem dX7_isTooGreat_64 : decode cX7_isTooGreat 64 = .ok (.if_icmp .le 7, 3) := by decide +kernel
theorem dX7_isTooGreat_67 : decode cX7_isTooGreat 67 = .ok (.iconst 1, 1) := by decide +kernel
theorem dX7_isTooGreat_68 : decode cX7_isTooGreat 68 = .ok (.goto 4, 3) := by decide +kernel
theorem dX7_isTooGreat_71 : decode cX7_isTooGreat 71 = .ok (.iconst 0, 1) := by decide +kernel
theorem dX7_isTooGreat_72 : decode cX7_isTooGreat 72 = .ok (.istore_n 2, 1) := by decide +kernel
theorem dX7_isTooGreat_73 : decode cX7_isTooGreat 73 = .ok (.iinc 4 1, 3) := by decide +kernel
theorem dX7_isTooGreat_76 : decode cX7_isTooGreat 76 = .ok (.goto (-59), 3) := by decide +kernel
theorem dX7_isTooGreat_79 : decode cX7_isTooGreat 79 = .ok (.iinc 3 1, 3) := by decide +kernel
theorem dX7_isTooGreat_82 : decode cX7_isTooGreat 82 = .ok (.goto (-78), 3) := by decide +kernel
theorem dX7_isTooGreat_85 : decode cX7_isTooGreat 85 = .ok (.iload_n 2, 1) := by decide +kernel
theorem dX7_isTooGreat_86 : decode cX7_isTooGreat 86 = .ok (.ireturn, 1) := by decide +kernel
theorem dX7_happens_0 : decode cX7_happens 0 = .ok (.aload_n 0, 1) := by decide +kernel
theorem dX7_happens_1 : decode cX7_happens 1 = .ok (.iload_n 1, 1) := by decide +kernel
theorem dX7_happens_2 : decode cX7_happens 2 = .ok (.invokevirtual 162, 3) := by decide +kernel
theorem dX7_happens_5 : decode cX7_happens 5 = .ok (.iconst 2, 1) := by decide +kernel
theorem dX7_happens_6 : decode cX7_happens 6 = .ok (.if_icmp .ne 7, 3) := by decide +kernel
theorem dX7_happens_9 : decode cX7_happens 9 = .ok (.iconst 1, 1) := by decide +kernel
theorem dX7_happens_10 : decode cX7_happens 10 = .ok (.goto 4, 3) := by decide +kernel
theorem dX7_happens_13 : decode cX7_happens 13 = .ok (.iconst 0, 1) := by decide +kernel
theorem dX7_happens_14 : decode cX7_happens 14 = .ok (.istore_n 3, 1) := by decide +kernel
theorem dX7_happens_15 : decode cX7_happens 15 = .ok (.iload_n 3, 1) := by decide +kernel
theorem dX7_happens_16 : decode cX7_happens 16 = .ok (.ifCond .eq 12, 3) := by decide +kernel
theorem dX7_happens_19 : decode cX7_happens 19 = .ok (.aload_n 0, 1) := by decide +kernel
theorem dX7_happens_20 : decode cX7_happens 20 = .ok (.iload_n 1, 1) := by decide +kernel
theorem dX7_happens_21 : decode cX7_happens 21 = .ok (.iload_n 2, 1) := by decide +kernel
theorem dX7_happens_22 : decode cX7_happens 22 = .ok (.invokevirtual 178, 3) := by decide +kernel
theorem dX7_happens_25 : decode cX7_happens 25 = .ok (.goto 4, 3) := by decide +kernel
theorem dX7_happens_28 : decode cX7_happens 28 = .ok (.iconst 0, 1) := by decide +kernel
theorem dX7_happens_29 : decode cX7_happens 29 = .ok (.istore 4, 2) := by decide +kernel
theorem dX7_happens_31 : decode cX7_happens 31 = .ok (.iconst 0, 1) := by decide +kernel
theorem dX7_happens_32 : decode cX7_happens 32 = .ok (.istore 5, 2) := by decide +kernel
theorem dX7_happens_34 : decode cX7_happens 34 = .ok (.iload 5, 2) := by decide +kernel
theorem dX7_happens_36 : decode cX7_happens 36 = .ok (.aload_n 0, 1) := by decide +kernel
theorem dX7_happens_37 : decode cX7_happens 37 = .ok (.getfield 7, 3) := by decide +kernel
theorem dX7_happens_40 : decode cX7_happens 40 = .ok (.iload_n 1, 1) := by decide +kernel
theorem dX7_happens_41 : decode cX7_happens 41 = .ok (.invokestatic 74, 3) := by decide +kernel
theorem dX7_happens_44 : decode cX7_happens 44 = .ok (.iconst 5, 1) := by decide +kernel
theorem dX7_happens_45 : decode cX7_happens 45 = .ok (.iadd, 1) := by decide +kernel
theorem dX7_happens_46 : decode cX7_happens 46 = .ok (.iaload, 1) := by decide +kernel
theorem dX7_happens_47 : decode cX7_happens 47 = .ok (.if_icmp .ge 28, 3) := by decide +kernel
theorem dX7_happens_50 : decode cX7_happens 50 = .ok (.aload_n 0, 1) := by decide +kernel
theorem dX7_happens_51 : decode cX7_happens 51 = .ok (.iload_n 1, 1) := by decide +kernel
theorem dX7_happens_52 : decode cX7_happens 52 = .ok (.iload 5, 2) := by decide +kernel
theorem dX7_happens_54 : decode cX7_happens 54 = .ok (.aload_n 0, 1) := by decide +kernel
theorem dX7_happens_55 : decode cX7_happens 55 = .ok (.aload_n 0, 1) := by decide +kernel
theorem dX7_happens_56 : decode cX7_happens 56 = .ok (.iload_n 1, 1) := by decide +kernel
theorem dX7_happens_57 : decode cX7_happens 57 = .ok (.iload 5, 2) := by decide +kernel
theorem dX7_happens_59 : decode cX7_happens 59 = .ok (.invokevirtual 165, 3) := by decide +kernel
theorem dX7_happens_62 : decode cX7_happens 62 = .ok (.iload_n 2, 1) := by decide +kernel
theorem dX7_happens_63 : decode cX7_happens 63 = .ok (.invokevirtual 168, 3) := by decide +kernel
theorem dX7_happens_66 : decode cX7_happens 66 = .ok (.invokevirtual 181, 3) := by decide +kernel
theorem dX7_happens_69 : decode cX7_happens 69 = .ok (.iinc 5 1, 3) := by decide +kernel
theorem dX7_happens_72 : decode cX7_happens 72 = .ok (.goto (-38), 3) := by decide +kernel
theorem dX7_happens_75 : decode cX7_happens 75 = .ok (.iload_n 3, 1) := by decide +kernel
theorem dX7_happens_76 : decode cX7_happens 76 = .ok (.ifCond .eq 12, 3) := by decide +kernel
theorem dX7_happens_79 : decode cX7_happens 79 = .ok (.aload_n 0, 1) := by decide +kernel
theorem dX7_happens_80 : decode cX7_happens 80 = .ok (.iload_n 1, 1) := by decide +kernel
theorem dX7_happens_81 : decode cX7_happens 81 = .ok (.invokevirtual 185, 3) := by decide +kernel
theorem dX7_happens_84 : decode cX7_happens 84 = .ok (.iconst 2, 1) := by decide +kernel
theorem dX7_happens_85 : decode cX7_happens 85 = .ok (.if_icmp .ne 5, 3) := by decide +kernel
theorem dX7_happens_88 : decode cX7_happens 88 = .ok (.iconst 0, 1) := by decide +kernel
theorem dX7_happens_89 : decode cX7_happens 89 = .ok (.ireturn, 1) := by decide +kernel
theorem dX7_happens_90 : decode cX7_happens 90 = .ok (.aload_n 0, 1) := by decide +kernel
theorem dX7_happens_91 : decode cX7_happens 91 = .ok (.getfield 7, 3) := by decide +kernel
theorem dX7_happens_94 : decode cX7_happens 94 = .ok (.iload_n 1, 1) := by decide +kernel
theorem dX7_happens_95 : decode cX7_happens 95 = .ok (.invokestatic 74, 3) := by decide +kernel
theorem dX7_happens_98 : decode cX7_happens 98 = .ok (.iconst 1, 1) := by decide +kernel
theorem dX7_happens_99 : decode cX7_happens 99 = .ok (.iadd, 1) := by decide +kernel
theorem dX7_happens_100 : decode cX7_happens 100 = .ok (.aload_n 0, 1) := by decide +kernel
theorem dX7_happens_101 : decode cX7_happens 101 = .ok (.iload_n 1, 1) := by decide +kernel
theorem dX7_happens_102 : decode cX7_happens 102 = .ok (.invokevirtual 185, 3) := by decide +kernel
theorem dX7_happens_105 : decode cX7_happens 105 = .ok (.iastore, 1) := by decide +kernel
theorem dX7_happens_106 : decode cX7_happens 106 = .ok (.aload_n 0, 1) := by decide +kernel
theorem dX7_happens_107 : decode cX7_happens 107 = .ok (.getfield 7, 3) := by decide +kernel
theorem dX7_happens_110 : decode cX7_happens 110 = .ok (.iload_n 1, 1) := by decide +kernel
theorem dX7_happens_111 : decode cX7_happens 111 = .ok (.invokestatic 74, 3) := by decide +kernel
theorem dX7_happens_114 : decode cX7_happens 114 = .ok (.iconst 2, 1) := by decide +kernel
theorem dX7_happens_115 : decode cX7_happens 115 = .ok (.iadd, 1) := by decide +kernel
theorem dX7_happens_116 : decode cX7_happens 116 = .ok (.aload_n 0, 1) := by decide +kernel
theorem dX7_happens_117 : decode cX7_happens 117 = .ok (.getfield 7, 3) := by decide +kernel
theorem dX7_happens_120 : decode cX7_happens 120 = .ok (.iconst 0, 1) := by decide +kernel
theorem dX7_happens_121 : decode cX7_happens 121 = .ok (.iaload, 1) := by decide +kernel
theorem dX7_happens_122 : decode cX7_happens 122 = .ok (.iastore, 1) := by decide +kernel
theorem dX7_happens_123 : decode cX7_happens 123 = .ok (.aload_n 0, 1) := by decide +kernel
theorem dX7_happens_124 : decode cX7_happens 124 = .ok (.getfield 7, 3) := by decide +kernel
theorem dX7_happens_127 : decode cX7_happens 127 = .ok (.iload_n 1, 1) := by decide +kernel
theorem dX7_happens_128 : decode cX7_happens 128 = .ok (.invokestatic 74, 3) := by decide +kernel
theorem dX7_happens_131 : decode cX7_happens 131 = .ok (.iconst 3, 1) := by decide +kernel
theorem dX7_happens_132 : decode cX7_happens 132 = .ok (.iadd, 1) := by decide +kernel
theorem dX7_happens_133 : decode cX7_happens 133 = .ok (.aload_n 0, 1) := by decide +kernel
theorem dX7_happens_134 : decode cX7_happens 134 = .ok (.iload_n 1, 1) := by decide +kernel
theorem dX7_happens_135 : decode cX7_happens 135 = .ok (.invokevirtual 162, 3) := by decide +kernel
theorem dX7_happens_138 : decode cX7_happens 138 = .ok (.ifCond .ne 8, 3) := by decide +kernel
theorem dX7_happens_141 : decode cX7_happens 141 = .ok (.iload 4, 2) := by decide +kernel
theorem dX7_happens_143 : decode cX7_happens 143 = .ok (.goto 4, 3) := by decide +kernel
theorem dX7_happens_146 : decode cX7_happens 146 = .ok (.iconst 0, 1) := by decide +kernel
theorem dX7_happens_147 : decode cX7_happens 147 = .ok (.iastore, 1) := by decide +kernel
theorem dX7_happens_148 : decode cX7_happens 148 = .ok (.iconst 1, 1) := by decide +kernel
theorem dX7_happens_149 : decode cX7_happens 149 = .ok (.ireturn, 1) := by decide +kernel
theorem dX7_event_0 : decode cX7_event 0 = .ok (.iload_n 1, 1) := by decide +kernel
theorem dX7_event_1 : decode cX7_event 1 = .ok (.iconst 0, 1) := by decide +kernel
theorem dX7_event_2 : decode cX7_event 2 = .ok (.bipush 63, 2) := by decide +kernel
theorem dX7_event_4 : decode cX7_event 4 = .ok (.invokestatic 70, 3) := by decide +kernel
theorem dX7_event_7 : decode cX7_event 7 = .ok (.ifCond .ne 6, 3) := by decide +kernel
theorem dX7_event_10 : decode cX7_event 10 = .ok (.bipush (-2), 2) := by decide +kernel
theorem dX7_event_12 : decode cX7_event 12 = .ok (.ireturn, 1) := by decide +kernel
theorem dX7_event_13 : decode cX7_event 13 = .ok (.aload_n 0, 1) := by decide +kernel
theorem dX7_event_14 : decode cX7_event 14 = .ok (.getfield 7, 3) := by decide +kernel
theorem dX7_event_17 : decode cX7_event 17 = .ok (.iconst 1, 1) := by decide +kernel
theorem dX7_event_18 : decode cX7_event 18 = .ok (.iaload, 1) := by decide +kernel
theorem dX7_event_19 : decode cX7_event 19 = .ok (.iconst 1, 1) := by decide +kernel
theorem dX7_event_20 : decode cX7_event 20 = .ok (.if_icmp .ne 6, 3) := by decide +kernel
theorem dX7_event_23 : decode cX7_event 23 = .ok (.bipush (-4), 2) := by decide +kernel
theorem dX7_event_25 : decode cX7_event 25 = .ok (.ireturn, 1) := by decide +kernel
theorem dX7_event_26 : decode cX7_event 26 = .ok (.aload_n 0, 1) := by decide +kernel
theorem dX7_event_27 : decode cX7_event 27 = .ok (.getfield 7, 3) := by decide +kernel
theorem dX7_event_30 : decode cX7_event 30 = .ok (.iconst 0, 1) := by decide +kernel
theorem dX7_event_31 : decode cX7_event 31 = .ok (.iaload, 1) := by decide +kernel
theorem dX7_event_32 : decode cX7_event 32 = .ok (.bipush 40, 2) := by decide +kernel
theorem dX7_event_34 : decode cX7_event 34 = .ok (.if_icmp .eq 11, 3) := by decide +kernel
theorem dX7_event_37 : decode cX7_event 37 = .ok (.aload_n 0, 1) := by decide +kernel
theorem dX7_event_38 : decode cX7_event 38 = .ok (.iload_n 1, 1) := by decide +kernel
theorem dX7_event_39 : decode cX7_event 39 = .ok (.invokevirtual 188, 3) := by decide +kernel
theorem dX7_event_42 : decode cX7_event 42 = .ok (.ifCond .eq 6, 3) := by decide +kernel
theorem dX7_event_45 : decode cX7_event 45 = .ok (.bipush (-3), 2) := by decide +kernel
theorem dX7_event_47 : decode cX7_event 47 = .ok (.ireturn, 1) := by decide +kernel
theorem dX7_event_48 : decode cX7_event 48 = .ok (.aload_n 0, 1) := by decide +kernel
theorem dX7_event_49 : decode cX7_event 49 = .ok (.invokevirtual 191, 3) := by decide +kernel
theorem dX7_event_52 : decode cX7_event 52 = .ok (.iconst 0, 1) := by decide +kernel
theorem dX7_event_53 : decode cX7_event 53 = .ok (.istore_n 2, 1) := by decide +kernel
theorem dX7_event_54 : decode cX7_event 54 = .ok (.iconst 0, 1) := by decide +kernel
theorem dX7_event_55 : decode cX7_event 55 = .ok (.istore_n 3, 1) := by decide +kernel
theorem dX7_event_56 : decode cX7_event 56 = .ok (.iload_n 3, 1) := by decide +kernel
theorem dX7_event_57 : decode cX7_event 57 = .ok (.aload_n 0, 1) := by decide +kernel
theorem dX7_event_58 : decode cX7_event 58 = .ok (.getfield 7, 3) := by decide +kernel
theorem dX7_event_61 : decode cX7_event 61 = .ok (.iconst 2, 1) := by decide +kernel
theorem dX7_event_62 : decode cX7_event 62 = .ok (.iaload, 1) := by decide +kernel
theorem dX7_event_63 : decode cX7_event 63 = .ok (.if_icmp .ge 30, 3) := by decide +kernel
theorem dX7_event_66 : decode cX7_event 66 = .ok (.iload_n 2, 1) := by decide +kernel
theorem dX7_event_67 : decode cX7_event 67 = .ok (.aload_n 0, 1) := by decide +kernel
theorem dX7_event_68 : decode cX7_event 68 = .ok (.iload_n 3, 1) := by decide +kernel
theorem dX7_event_69 : decode cX7_event 69 = .ok (.invokevirtual 174, 3) := by decide +kernel
theorem dX7_event_72 : decode cX7_event 72 = .ok (.ifCond .eq 12, 3) := by decide +kernel
theorem dX7_event_75 : decode cX7_event 75 = .ok (.aload_n 0, 1) := by decide +kernel
theorem dX7_event_76 : decode cX7_event 76 = .ok (.iload_n 3, 1) := by decide +kernel
theorem dX7_event_77 : decode cX7_event 77 = .ok (.iload_n 1, 1) := by decide +kernel
theorem dX7_event_78 : decode cX7_event 78 = .ok (.invokevirtual 194, 3) := by decide +kernel
theorem dX7_event_81 : decode cX7_event 81 = .ok (.goto 4, 3) := by decide +kernel
theorem dX7_event_84 : decode cX7_event 84 = .ok (.iconst 0, 1) := by decide +kernel
theorem dX7_event_85 : decode cX7_event 85 = .ok (.iadd, 1) := by decide +kernel
theorem dX7_event_86 : decode cX7_event 86 = .ok (.istore_n 2, 1) := by decide +kernel
theorem dX7_event_87 : decode cX7_event 87 = .ok (.iinc 3 1, 3) := by decide +kernel
theorem dX7_event_90 : decode cX7_event 90 = .ok (.goto (-34), 3) := by decide +kernel
theorem dX7_event_93 : decode cX7_event 93 = .ok (.aload_n 0, 1) := by decide +kernel
theorem dX7_event_94 : decode cX7_event 94 = .ok (.getfield 7, 3) := by decide +kernel
theorem dX7_event_97 : decode cX7_event 97 = .ok (.iconst 4, 1) := by decide +kernel
theorem dX7_event_98 : decode cX7_event 98 = .ok (.aload_n 0, 1) := by decide +kernel
theorem dX7_event_99 : decode cX7_event 99 = .ok (.getfield 7, 3) := by decide +kernel
theorem dX7_event_102 : decode cX7_event 102 = .ok (.iconst 0, 1) := by decide +kernel
theorem dX7_event_103 : decode cX7_event 103 = .ok (.iaload, 1) := by decide +kernel
theorem dX7_event_104 : decode cX7_event 104 = .ok (.iadd, 1) := by decide +kernel
theorem dX7_event_105 : decode cX7_event 105 = .ok (.iload_n 1, 1) := by decide +kernel
theorem dX7_event_106 : decode cX7_event 106 = .ok (.iastore, 1) := by decide +kernel
theorem dX7_event_107 : decode cX7_event 107 = .ok (.aload_n 0, 1) := by decide +kernel
theorem dX7_event_108 : decode cX7_event 108 = .ok (.getfield 7, 3) := by decide +kernel
theorem dX7_event_111 : decode cX7_event 111 = .ok (.iconst 0, 1) := by decide +kernel
theorem dX7_event_112 : decode cX7_event 112 = .ok (.dup2, 1) := by decide +kernel
theorem dX7_event_113 : decode cX7_event 113 = .ok (.iaload, 1) := by decide +kernel
theorem dX7_event_114 : decode cX7_event 114 = .ok (.iconst 1, 1) := by decide +kernel
theorem dX7_event_115 : decode cX7_event 115 = .ok (.iadd, 1) := by decide +kernel
theorem dX7_event_116 : decode cX7_event 116 = .ok (.iastore, 1) := by decide +kernel
theorem dX7_event_117 : decode cX7_event 117 = .ok (.iload_n 2, 1) := by decide +kernel
theorem dX7_event_118 : decode cX7_event 118 = .ok (.ireturn, 1) := by decide +kernel
theorem dX7_end_0 : decode cX7_end 0 = .ok (.aload_n 0, 1) := by decide +kernel
theorem dX7_end_1 : decode cX7_end 1 = .ok (.getfield 7, 3) := by decide +kernel
theorem dX7_end_4 : decode cX7_end 4 = .ok (.iconst 1, 1) := by decide +kernel
theorem dX7_end_5 : decode cX7_end 5 = .ok (.iaload, 1) := by decide +kernel
theorem dX7_end_6 : decode cX7_end 6 = .ok (.iconst 1, 1) := by decide +kernel
theorem dX7_end_7 : decode cX7_end 7 = .ok (.if_icmp .ne 6, 3) := by decide +kernel
theorem dX7_end_10 : decode cX7_end 10 = .ok (.bipush (-4), 2) := by decide +kernel
theorem dX7_end_12 : decode cX7_end 12 = .ok (.ireturn, 1) := by decide +kernel
theorem dX7_end_13 : decode cX7_end 13 = .ok (.aload_n 0, 1) := by decide +kernel
theorem dX7_end_14 : decode cX7_end 14 = .ok (.invokevirtual 191, 3) := by decide +kernel
theorem dX7_end_17 : decode cX7_end 17 = .ok (.iconst 0, 1) := by decide +kernel
theorem dX7_end_18 : decode cX7_end 18 = .ok (.istore_n 1, 1) := by decide +kernel
theorem dX7_end_19 : decode cX7_end 19 = .ok (.iconst 0, 1) := by decide +kernel
theorem dX7_end_20 : decode cX7_end 20 = .ok (.istore_n 2, 1) := by decide +kernel
theorem dX7_end_21 : decode cX7_end 21 = .ok (.iload_n 2, 1) := by decide +kernel
theorem dX7_end_22 : decode cX7_end 22 = .ok (.aload_n 0, 1) := by decide +kernel
theorem dX7_end_23 : decode cX7_end 23 = .ok (.getfield 7, 3) := by decide +kernel
theorem dX7_end_26 : decode cX7_end 26 = .ok (.iconst 2, 1) := by decide +kernel
theorem dX7_end_27 : decode cX7_end 27 = .ok (.iaload, 1) := by decide +kernel
theorem dX7_end_28 : decode cX7_end 28 = .ok (.if_icmp .ge 97, 3) := by decide +kernel
theorem dX7_end_31 : decode cX7_end 31 = .ok (.aload_n 0, 1) := by decide +kernel
theorem dX7_end_32 : decode cX7_end 32 = .ok (.iload_n 2, 1) := by decide +kernel
theorem dX7_end_33 : decode cX7_end 33 = .ok (.invokevirtual 174, 3) := by decide +kernel
theorem dX7_end_36 : decode cX7_end 36 = .ok (.ifCond .eq 83, 3) := by decide +kernel
theorem dX7_end_39 : decode cX7_end 39 = .ok (.aload_n 0, 1) := by decide +kernel
theorem dX7_end_40 : decode cX7_end 40 = .ok (.iload_n 2, 1) := by decide +kernel
theorem dX7_end_41 : decode cX7_end 41 = .ok (.invokevirtual 162, 3) := by decide +kernel
theorem dX7_end_44 : decode cX7_end 44 = .ok (.iconst 2, 1) := by decide +kernel
theorem dX7_end_45 : decode cX7_end 45 = .ok (.if_icmp .ne 74, 3) := by decide +kernel
theorem dX7_end_48 : decode cX7_end 48 = .ok (.iconst 0, 1) := by decide +kernel
theorem dX7_end_49 : decode cX7_end 49 = .ok (.istore_n 3, 1) := by decide +kernel
theorem dX7_end_50 : decode cX7_end 50 = .ok (.iload_n 3, 1) := by decide +kernel
theorem dX7_end_51 : decode cX7_end 51 = .ok (.aload_n 0, 1) := by decide +kernel
theorem dX7_end_52 : decode cX7_end 52 = .ok (.getfield 7, 3) := by decide +kernel
theorem dX7_end_55 : decode cX7_end 55 = .ok (.iload_n 2, 1) := by decide +kernel
theorem dX7_end_56 : decode cX7_end 56 = .ok (.invokestatic 74, 3) := by decide +kernel
theorem dX7_end_59 : decode cX7_end 59 = .ok (.iconst 5, 1) := by decide +kernel
theorem dX7_end_60 : decode cX7_end 60 = .ok (.iadd, 1) := by decide +kernel
theorem dX7_end_61 : decode cX7_end 61 = .ok (.iaload, 1) := by decide +kernel
theorem dX7_end_62 : decode cX7_end 62 = .ok (.if_icmp .ge 33, 3) := by decide +kernel
theorem dX7_end_65 : decode cX7_end 65 = .ok (.aload_n 0, 1) := by decide +kernel
theorem dX7_end_66 : decode cX7_end 66 = .ok (.iload_n 2, 1) := by decide +kernel
theorem dX7_end_67 : decode cX7_end 67 = .ok (.iload_n 3, 1) := by decide +kernel
theorem dX7_end_68 : decode cX7_end 68 = .ok (.aload_n 0, 1) := by decide +kernel
theorem dX7_end_69 : decode cX7_end 69 = .ok (.aload_n 0, 1) := by decide +kernel
theorem dX7_end_70 : decode cX7_end 70 = .ok (.iload_n 2, 1) := by decide +kernel
theorem dX7_end_71 : decode cX7_end 71 = .ok (.iload_n 3, 1) := by decide +kernel
theorem dX7_end_72 : decode cX7_end 72 = .ok (.invokevirtual 165, 3) := by decide +kernel
theorem dX7_end_75 : decode cX7_end 75 = .ok (.invokevirtual 197, 3) := by decide +kernel
theorem dX7_end_78 : decode cX7_end 78 = .ok (.ifCond .eq 7, 3) := by decide +kernel
theorem dX7_end_81 : decode cX7_end 81 = .ok (.iconst 1, 1) := by decide +kernel
theorem dX7_end_82 : decode cX7_end 82 = .ok (.goto 4, 3) := by decide +kernel
theorem dX7_end_85 : decode cX7_end 85 = .ok (.iconst 0, 1) := by decide +kernel
theorem dX7_end_86 : decode cX7_end 86 = .ok (.invokevirtual 181, 3) := by decide +kernel
theorem dX7_end_89 : decode cX7_end 89 = .ok (.iinc 3 1, 3) := by decide +kernel
theorem dX7_end_92 : decode cX7_end 92 = .ok (.goto (-42), 3) := by decide +kernel
theorem dX7_end_95 : decode cX7_end 95 = .ok (.aload_n 0, 1) := by decide +kernel
theorem dX7_end_96 : decode cX7_end 96 = .ok (.getfield 7, 3) := by decide +kernel
theorem dX7_end_99 : decode cX7_end 99 = .ok (.iload_n 2, 1) := by decide +kernel
theorem dX7_end_100 : decode cX7_end 100 = .ok (.invokestatic 74, 3) := by decide +kernel
theorem dX7_end_103 : decode cX7_end 103 = .ok (.iconst 1, 1) := by decide +kernel
theorem dX7_end_104 : decode cX7_end 104 = .ok (.iadd, 1) := by decide +kernel
theorem dX7_end_105 : decode cX7_end 105 = .ok (.aload_n 0, 1) := by decide +kernel
theorem dX7_end_106 : decode cX7_end 106 = .ok (.iload_n 2, 1) := by decide +kernel
theorem dX7_end_107 : decode cX7_end 107 = .ok (.invokevirtual 185, 3) := by decide +kernel
theorem dX7_end_110 : decode cX7_end 110 = .ok (.iastore, 1) := by decide +kernel
theorem dX7_end_111 : decode cX7_end 111 = .ok (.iload_n 1, 1) := by decide +kernel
theorem dX7_end_112 : decode cX7_end 112 = .ok (.aload_n 0, 1) := by decide +kernel
theorem dX7_end_113 : decode cX7_end 113 = .ok (.iload_n 2, 1) := by decide +kernel
theorem dX7_end_114 : decode cX7_end 114 = .ok (.invokevirtual 162, 3) := by decide +kernel
theorem dX7_end_117 : decode cX7_end 117 = .ok (.iadd, 1) := by decide +kernel
theorem dX7_end_118 : decode cX7_end 118 = .ok (.istore_n 1, 1) := by decide +kernel
theorem dX7_end_119 : decode cX7_end 119 = .ok (.iinc 2 1, 3) := by decide +kernel
theorem dX7_end_122 : decode cX7_end 122 = .ok (.goto (-101), 3) := by decide +kernel
theorem dX7_end_125 : decode cX7_end 125 = .ok (.aload_n 0, 1) := by decide +kernel
theorem dX7_end_126 : decode cX7_end 126 = .ok (.getfield 7, 3) := by decide +kernel
theorem dX7_end_129 : decode cX7_end 129 = .ok (.iconst 1, 1) := by decide +kernel
theorem dX7_end_130 : decode cX7_end 130 = .ok (.iconst 1, 1) := by decide +kernel
theorem dX7_end_131 : decode cX7_end 131 = .ok (.iastore, 1) := by decide +kernel
theorem dX7_end_132 : decode cX7_end 132 = .ok (.iload_n 1, 1) := by decide +kernel
theorem dX7_end_133 : decode cX7_end 133 = .ok (.ireturn, 1) := by decide +kernel
theorem dX7_isThing_0 : decode cX7_isThing 0 = .ok (.iload_n 0, 1) := by decide +kernel
theorem dX7_isThing_1 : decode cX7_isThing 1 = .ok (.bipush 97, 2) := by decide +kernel
theorem dX7_isThing_3 : decode cX7_isThing 3 = .ok (.if_icmp .lt 9, 3) := by decide +kernel
theorem dX7_isThing_6 : decode cX7_isThing 6 = .ok (.iload_n 0, 1) := by decide +kernel
theorem dX7_isThing_7 : decode cX7_isThing 7 = .ok (.bipush 102, 2) := by decide +kernel
theorem dX7_isThing_9 : decode cX7_isThing 9 = .ok (.if_icmp .le 15, 3) := by decide +kernel
theorem dX7_isThing_12 : decode cX7_isThing 12 = .ok (.iload_n 0, 1) := by decide +kernel
theorem dX7_isThing_13 : decode cX7_isThing 13 = .ok (.bipush 49, 2) := by decide +kernel
theorem dX7_isThing_15 : decode cX7_isThing 15 = .ok (.if_icmp .eq 9, 3) := by decide +kernel
theorem dX7_isThing_18 : decode cX7_isThing 18 = .ok (.iload_n 0, 1) := by decide +kernel
theorem dX7_isThing_19 : decode cX7_isThing 19 = .ok (.bipush 48, 2) := by decide +kernel
theorem dX7_isThing_21 : decode cX7_isThing 21 = .ok (.if_icmp .ne 7, 3) := by decide +kernel
theorem dX7_isThing_24 : decode cX7_isThing 24 = .ok (.iconst 1, 1) := by decide +kernel
theorem dX7_isThing_25 : decode cX7_isThing 25 = .ok (.goto 4, 3) := by decide +kernel
theorem dX7_isThing_28 : decode cX7_isThing 28 = .ok (.iconst 0, 1) := by decide +kernel
theorem dX7_isThing_29 : decode cX7_isThing 29 = .ok (.ireturn, 1) := by decide +kernel
theorem dX7_isAheadSign_0 : decode cX7_isAheadSign 0 = .ok (.iload_n 0, 1) := by decide +kernel
theorem dX7_isAheadSign_1 : decode cX7_isAheadSign 1 = .ok (.bipush 33, 2) := by decide +kernel
theorem dX7_isAheadSign_3 : decode cX7_isAheadSign 3 = .ok (.if_icmp .eq 27, 3) := by decide +kernel
theorem dX7_isAheadSign_6 : decode cX7_isAheadSign 6 = .ok (.iload_n 0, 1) := by decide +kernel
theorem dX7_isAheadSign_7 : decode cX7_isAheadSign 7 = .ok (.bipush 88, 2) := by decide +kernel
theorem dX7_isAheadSign_9 : decode cX7_isAheadSign 9 = .ok (.if_icmp .eq 21, 3) := by decide +kernel
theorem dX7_isAheadSign_12 : decode cX7_isAheadSign 12 = .ok (.iload_n 0, 1) := by decide +kernel
theorem dX7_isAheadSign_13 : decode cX7_isAheadSign 13 = .ok (.bipush 78, 2) := by decide +kernel
theorem dX7_isAheadSign_15 : decode cX7_isAheadSign 15 = .ok (.if_icmp .eq 15, 3) := by decide +kernel
theorem dX7_isAheadSign_18 : decode cX7_isAheadSign 18 = .ok (.iload_n 0, 1) := by decide +kernel
theorem dX7_isAheadSign_19 : decode cX7_isAheadSign 19 = .ok (.bipush 71, 2) := by decide +kernel
theorem dX7_isAheadSign_21 : decode cX7_isAheadSign 21 = .ok (.if_icmp .eq 9, 3) := by decide +kernel
theorem dX7_isAheadSign_24 : decode cX7_isAheadSign 24 = .ok (.iload_n 0, 1) := by decide +kernel
theorem dX7_isAheadSign_25 : decode cX7_isAheadSign 25 = .ok (.bipush 70, 2) := by decide +kernel
theorem dX7_isAheadSign_27 : decode cX7_isAheadSign 27 = .ok (.if_icmp .ne 7, 3) := by decide +kernel
theorem dX7_isAheadSign_30 : decode cX7_isAheadSign 30 = .ok (.iconst 1, 1) := by decide +kernel
theorem dX7_isAheadSign_31 : decode cX7_isAheadSign 31 = .ok (.goto 4, 3) := by decide +kernel
theorem dX7_isAheadSign_34 : decode cX7_isAheadSign 34 = .ok (.iconst 0, 1) := by decide +kernel
theorem dX7_isAheadSign_35 : decode cX7_isAheadSign 35 = .ok (.ireturn, 1) := by decide +kernel
theorem dX7_rank_0 : decode cX7_rank 0 = .ok (.iload_n 0, 1) := by decide +kernel
theorem dX7_rank_1 : decode cX7_rank 1 = .ok (.bipush 124, 2) := by decide +kernel
theorem dX7_rank_3 : decode cX7_rank 3 = .ok (.if_icmp .ne 7, 3) := by decide +kernel
theorem dX7_rank_6 : decode cX7_rank 6 = .ok (.iconst 1, 1) := by decide +kernel
theorem dX7_rank_7 : decode cX7_rank 7 = .ok (.goto 30, 3) := by decide +kernel
theorem dX7_rank_10 : decode cX7_rank 10 = .ok (.iload_n 0, 1) := by decide +kernel
theorem dX7_rank_11 : decode cX7_rank 11 = .ok (.bipush 38, 2) := by decide +kernel
theorem dX7_rank_13 : decode cX7_rank 13 = .ok (.if_icmp .ne 7, 3) := by decide +kernel
theorem dX7_rank_16 : decode cX7_rank 16 = .ok (.iconst 2, 1) := by decide +kernel
theorem dX7_rank_17 : decode cX7_rank 17 = .ok (.goto 20, 3) := by decide +kernel
theorem dX7_rank_20 : decode cX7_rank 20 = .ok (.iload_n 0, 1) := by decide +kernel
theorem dX7_rank_21 : decode cX7_rank 21 = .ok (.bipush 85, 2) := by decide +kernel
theorem dX7_rank_23 : decode cX7_rank 23 = .ok (.if_icmp .eq 9, 3) := by decide +kernel
theorem dX7_rank_26 : decode cX7_rank 26 = .ok (.iload_n 0, 1) := by decide +kernel
theorem dX7_rank_27 : decode cX7_rank 27 = .ok (.bipush 82, 2) := by decide +kernel
theorem dX7_rank_29 : decode cX7_rank 29 = .ok (.if_icmp .ne 7, 3) := by decide +kernel
theorem dX7_rank_32 : decode cX7_rank 32 = .ok (.iconst 3, 1) := by decide +kernel
theorem dX7_rank_33 : decode cX7_rank 33 = .ok (.goto 4, 3) := by decide +kernel
theorem dX7_rank_36 : decode cX7_rank 36 = .ok (.iconst 0, 1) := by decide +kernel
theorem dX7_rank_37 : decode cX7_rank 37 = .ok (.ireturn, 1) := by decide +kernel
theorem dX7_faultOf_0 : decode cX7_faultOf 0 = .ok (.iconst 0, 1) := by decide +kernel
theorem dX7_faultOf_1 : decode cX7_faultOf 1 = .ok (.istore_n 1, 1) := by decide +kernel
theorem dX7_faultOf_2 : decode cX7_faultOf 2 = .ok (.iconst 1, 1) := by decide +kernel
theorem dX7_faultOf_3 : decode cX7_faultOf 3 = .ok (.istore_n 2, 1) := by decide +kernel
theorem dX7_faultOf_4 : decode cX7_faultOf 4 = .ok (.iconst 0, 1) := by decide +kernel
theorem dX7_faultOf_5 : decode cX7_faultOf 5 = .ok (.istore_n 3, 1) := by decide +kernel
theorem dX7_faultOf_6 : decode cX7_faultOf 6 = .ok (.iload_n 3, 1) := by decide +kernel
theorem dX7_faultOf_7 : decode cX7_faultOf 7 = .ok (.aload_n 0, 1) := by decide +kernel
theorem dX7_faultOf_8 : decode cX7_faultOf 8 = .ok (.getfield 200, 3) := by decide +kernel
theorem dX7_faultOf_11 : decode cX7_faultOf 11 = .ok (.if_icmp .ge 149, 3) := by decide +kernel
theorem dX7_faultOf_14 : decode cX7_faultOf 14 = .ok (.aload_n 0, 1) := by decide +kernel
theorem dX7_faultOf_15 : decode cX7_faultOf 15 = .ok (.getfield 59, 3) := by decide +kernel
theorem dX7_faultOf_18 : decode cX7_faultOf 18 = .ok (.iload_n 3, 1) := by decide +kernel
theorem dX7_faultOf_19 : decode cX7_faultOf 19 = .ok (.caload, 1) := by decide +kernel
theorem dX7_faultOf_20 : decode cX7_faultOf 20 = .ok (.istore 4, 2) := by decide +kernel
theorem dX7_faultOf_22 : decode cX7_faultOf 22 = .ok (.iload_n 2, 1) := by decide +kernel
theorem dX7_faultOf_23 : decode cX7_faultOf 23 = .ok (.ifCond .eq 39, 3) := by decide +kernel
theorem dX7_faultOf_26 : decode cX7_faultOf 26 = .ok (.iload 4, 2) := by decide +kernel
theorem dX7_faultOf_28 : decode cX7_faultOf 28 = .ok (.invokestatic 203, 3) := by decide +kernel
theorem dX7_faultOf_31 : decode cX7_faultOf 31 = .ok (.ifCond .ne 23, 3) := by decide +kernel
theorem dX7_faultOf_34 : decode cX7_faultOf 34 = .ok (.iload 4, 2) := by decide +kernel
theorem dX7_faultOf_36 : decode cX7_faultOf 36 = .ok (.invokestatic 207, 3) := by decide +kernel
theorem dX7_faultOf_39 : decode cX7_faultOf 39 = .ok (.ifCond .ne 15, 3) := by decide +kernel
theorem dX7_faultOf_42 : decode cX7_faultOf 42 = .ok (.iload 4, 2) := by decide +kernel
theorem dX7_faultOf_44 : decode cX7_faultOf 44 = .ok (.bipush 40, 2) := by decide +kernel
theorem dX7_faultOf_46 : decode cX7_faultOf 46 = .ok (.if_icmp .ne 12, 3) := by decide +kernel
theorem dX7_faultOf_49 : decode cX7_faultOf 49 = .ok (.iload_n 1, 1) := by decide +kernel
theorem dX7_faultOf_50 : decode cX7_faultOf 50 = .ok (.iconst 4, 1) := by decide +kernel
theorem dX7_faultOf_51 : decode cX7_faultOf 51 = .ok (.if_icmp .ge 7, 3) := by decide +kernel
theorem dX7_faultOf_54 : decode cX7_faultOf 54 = .ok (.iconst 1, 1) := by decide +kernel
theorem dX7_faultOf_55 : decode cX7_faultOf 55 = .ok (.goto 31, 3) := by decide +kernel
theorem dX7_faultOf_58 : decode cX7_faultOf 58 = .ok (.iconst 0, 1) := by decide +kernel
theorem dX7_faultOf_59 : decode cX7_faultOf 59 = .ok (.goto 27, 3) := by decide +kernel
theorem dX7_faultOf_62 : decode cX7_faultOf 62 = .ok (.iload 4, 2) := by decide +kernel
theorem dX7_faultOf_64 : decode cX7_faultOf 64 = .ok (.invokestatic 210, 3) := by decide +kernel
theorem dX7_faultOf_67 : decode cX7_faultOf 67 = .ok (.ifCond .gt 14, 3) := by decide +kernel
theorem dX7_faultOf_70 : decode cX7_faultOf 70 = .ok (.iload 4, 2) := by decide +kernel
theorem dX7_faultOf_72 : decode cX7_faultOf 72 = .ok (.bipush 41, 2) := by decide +kernel
theorem dX7_faultOf_74 : decode cX7_faultOf 74 = .ok (.if_icmp .ne 11, 3) := by decide +kernel
theorem dX7_faultOf_77 : decode cX7_faultOf 77 = .ok (.iload_n 1, 1) := by decide +kernel
theorem dX7_faultOf_78 : decode cX7_faultOf 78 = .ok (.ifCond .le 7, 3) := by decide +kernel
theorem dX7_faultOf_81 : decode cX7_faultOf 81 = .ok (.iconst 1, 1) := by decide +kernel
theorem dX7_faultOf_82 : decode cX7_faultOf 82 = .ok (.goto 4, 3) := by decide +kernel
theorem dX7_faultOf_85 : decode cX7_faultOf 85 = .ok (.iconst 0, 1) := by decide +kernel
theorem dX7_faultOf_86 : decode cX7_faultOf 86 = .ok (.istore 5, 2) := by decide +kernel
theorem dX7_faultOf_88 : decode cX7_faultOf 88 = .ok (.iload 5, 2) := by decide +kernel
theorem dX7_faultOf_90 : decode cX7_faultOf 90 = .ok (.ifCond .ne 5, 3) := by decide +kernel
theorem dX7_faultOf_93 : decode cX7_faultOf 93 = .ok (.iload_n 3, 1) := by decide +kernel
theorem dX7_faultOf_94 : decode cX7_faultOf 94 = .ok (.ireturn, 1) := by decide +kernel
theorem dX7_faultOf_95 : decode cX7_faultOf 95 = .ok (.iload_n 1, 1) := by decide +kernel
theorem dX7_faultOf_96 : decode cX7_faultOf 96 = .ok (.iload 4, 2) := by decide +kernel
theorem dX7_faultOf_98 : decode cX7_faultOf 98 = .ok (.bipush 40, 2) := by decide +kernel
theorem dX7_faultOf_100 : decode cX7_faultOf 100 = .ok (.if_icmp .ne 7, 3) := by decide +kernel
theorem dX7_faultOf_103 : decode cX7_faultOf 103 = .ok (.iconst 1, 1) := by decide +kernel
theorem dX7_faultOf_104 : decode cX7_faultOf 104 = .ok (.goto 15, 3) := by decide +kernel
theorem dX7_faultOf_107 : decode cX7_faultOf 107 = .ok (.iload 4, 2) := by decide +kernel
theorem dX7_faultOf_109 : decode cX7_faultOf 109 = .ok (.bipush 41, 2) := by decide +kernel
theorem dX7_faultOf_111 : decode cX7_faultOf 111 = .ok (.if_icmp .ne 7, 3) := by decide +kernel
theorem dX7_faultOf_114 : decode cX7_faultOf 114 = .ok (.iconst (-1), 1) := by decide +kernel
theorem dX7_faultOf_115 : decode cX7_faultOf 115 = .ok (.goto 4, 3) := by decide +kernel
theorem dX7_faultOf_118 : decode cX7_faultOf 118 = .ok (.iconst 0, 1) := by decide +kernel
theorem dX7_faultOf_119 : decode cX7_faultOf 119 = .ok (.iadd, 1) := by decide +kernel
theorem dX7_faultOf_120 : decode cX7_faultOf 120 = .ok (.istore_n 1, 1) := by decide +kernel
theorem dX7_faultOf_121 : decode cX7_faultOf 121 = .ok (.iload_n 2, 1) := by decide +kernel
theorem dX7_faultOf_122 : decode cX7_faultOf 122 = .ok (.ifCond .eq 19, 3) := by decide +kernel
theorem dX7_faultOf_125 : decode cX7_faultOf 125 = .ok (.iload 4, 2) := by decide +kernel
theorem dX7_faultOf_127 : decode cX7_faultOf 127 = .ok (.invokestatic 203, 3) := by decide +kernel
theorem dX7_faultOf_130 : decode cX7_faultOf 130 = .ok (.ifCond .ne 7, 3) := by decide +kernel
theorem dX7_faultOf_133 : decode cX7_faultOf 133 = .ok (.iconst 1, 1) := by decide +kernel
theorem dX7_faultOf_134 : decode cX7_faultOf 134 = .ok (.goto 19, 3) := by decide +kernel
theorem dX7_faultOf_137 : decode cX7_faultOf 137 = .ok (.iconst 0, 1) := by decide +kernel
theorem dX7_faultOf_138 : decode cX7_faultOf 138 = .ok (.goto 15, 3) := by decide +kernel
theorem dX7_faultOf_141 : decode cX7_faultOf 141 = .ok (.iload 4, 2) := by decide +kernel
theorem dX7_faultOf_143 : decode cX7_faultOf 143 = .ok (.bipush 41, 2) := by decide +kernel
theorem dX7_faultOf_145 : decode cX7_faultOf 145 = .ok (.if_icmp .eq 7, 3) := by decide +kernel
theorem dX7_faultOf_148 : decode cX7_faultOf 148 = .ok (.iconst 1, 1) := by decide +kernel
theorem dX7_faultOf_149 : decode cX7_faultOf 149 = .ok (.goto 4, 3) := by decide +kernel
theorem dX7_faultOf_152 : decode cX7_faultOf 152 = .ok (.iconst 0, 1) := by decide +kernel
theorem dX7_faultOf_153 : decode cX7_faultOf 153 = .ok (.istore_n 2, 1) := by decide +kernel
theorem dX7_faultOf_154 : decode cX7_faultOf 154 = .ok (.iinc 3 1, 3) := by decide +kernel
theorem dX7_faultOf_157 : decode cX7_faultOf 157 = .ok (.goto (-151), 3) := by decide +kernel
theorem dX7_faultOf_160 : decode cX7_faultOf 160 = .ok (.iload_n 2, 1) := by decide +kernel
theorem dX7_faultOf_161 : decode cX7_faultOf 161 = .ok (.ifCond .ne 7, 3) := by decide +kernel
theorem dX7_faultOf_164 : decode cX7_faultOf 164 = .ok (.iload_n 1, 1) := by decide +kernel
theorem dX7_faultOf_165 : decode cX7_faultOf 165 = .ok (.ifCond .le 10, 3) := by decide +kernel
theorem dX7_faultOf_168 : decode cX7_faultOf 168 = .ok (.aload_n 0, 1) := by decide +kernel
theorem dX7_faultOf_169 : decode cX7_faultOf 169 = .ok (.getfield 200, 3) := by decide +kernel
theorem dX7_faultOf_172 : decode cX7_faultOf 172 = .ok (.goto 4, 3) := by decide +kernel
theorem dX7_faultOf_175 : decode cX7_faultOf 175 = .ok (.iconst (-1), 1) := by decide +kernel
theorem dX7_faultOf_176 : decode cX7_faultOf 176 = .ok (.ireturn, 1) := by decide +kernel
theorem dX7_apply_0 : decode cX7_apply 0 = .ok (.aload_n 0, 1) := by decide +kernel
theorem dX7_apply_1 : decode cX7_apply 1 = .ok (.dup, 1) := by decide +kernel
theorem dX7_apply_2 : decode cX7_apply 2 = .ok (.getfield 214, 3) := by decide +kernel
theorem dX7_apply_5 : decode cX7_apply 5 = .ok (.iconst 1, 1) := by decide +kernel
theorem dX7_apply_6 : decode cX7_apply 6 = .ok (.isub, 1) := by decide +kernel
theorem dX7_apply_7 : decode cX7_apply 7 = .ok (.putfield 214, 3) := by decide +kernel
theorem dX7_apply_10 : decode cX7_apply 10 = .ok (.aload_n 0, 1) := by decide +kernel
theorem dX7_apply_11 : decode cX7_apply 11 = .ok (.getfield 52, 3) := by decide +kernel
theorem dX7_apply_14 : decode cX7_apply 14 = .ok (.aload_n 0, 1) := by decide +kernel
theorem dX7_apply_15 : decode cX7_apply 15 = .ok (.getfield 214, 3) := by decide +kernel
theorem dX7_apply_18 : decode cX7_apply 18 = .ok (.caload, 1) := by decide +kernel
theorem dX7_apply_19 : decode cX7_apply 19 = .ok (.istore_n 1, 1) := by decide +kernel
theorem dX7_apply_20 : decode cX7_apply 20 = .ok (.aload_n 0, 1) := by decide +kernel
theorem dX7_apply_21 : decode cX7_apply 21 = .ok (.getfield 49, 3) := by decide +kernel
theorem dX7_apply_24 : decode cX7_apply 24 = .ok (.aload_n 0, 1) := by decide +kernel
theorem dX7_apply_25 : decode cX7_apply 25 = .ok (.getfield 217, 3) := by decide +kernel
theorem dX7_apply_28 : decode cX7_apply 28 = .ok (.iconst 1, 1) := by decide +kernel
theorem dX7_apply_29 : decode cX7_apply 29 = .ok (.isub, 1) := by decide +kernel
theorem dX7_apply_30 : decode cX7_apply 30 = .ok (.iaload, 1) := by decide +kernel
theorem dX7_apply_31 : decode cX7_apply 31 = .ok (.istore_n 2, 1) := by decide +kernel
theorem dX7_apply_32 : decode cX7_apply 32 = .ok (.iload_n 1, 1) := by decide +kernel
theorem dX7_apply_33 : decode cX7_apply 33 = .ok (.invokestatic 207, 3) := by decide +kernel
theorem dX7_apply_36 : decode cX7_apply 36 = .ok (.ifCond .eq 84, 3) := by decide +kernel
theorem dX7_apply_39 : decode cX7_apply 39 = .ok (.aload_n 0, 1) := by decide +kernel
theorem dX7_apply_40 : decode cX7_apply 40 = .ok (.getfield 49, 3) := by decide +kernel
theorem dX7_apply_43 : decode cX7_apply 43 = .ok (.aload_n 0, 1) := by decide +kernel
theorem dX7_apply_44 : decode cX7_apply 44 = .ok (.getfield 217, 3) := by decide +kernel
theorem dX7_apply_47 : decode cX7_apply 47 = .ok (.iconst 1, 1) := by decide +kernel
theorem dX7_apply_48 : decode cX7_apply 48 = .ok (.isub, 1) := by decide +kernel
theorem dX7_apply_49 : decode cX7_apply 49 = .ok (.iload_n 1, 1) := by decide +kernel
theorem dX7_apply_50 : decode cX7_apply 50 = .ok (.bipush 33, 2) := by decide +kernel
theorem dX7_apply_52 : decode cX7_apply 52 = .ok (.if_icmp .ne 11, 3) := by decide +kernel
theorem dX7_apply_55 : decode cX7_apply 55 = .ok (.aload_n 0, 1) := by decide +kernel
theorem dX7_apply_56 : decode cX7_apply 56 = .ok (.iload_n 2, 1) := by decide +kernel
theorem dX7_apply_57 : decode cX7_apply 57 = .ok (.invokevirtual 220, 3) := by decide +kernel
theorem dX7_apply_60 : decode cX7_apply 60 = .ok (.goto 58, 3) := by decide +kernel
theorem dX7_apply_63 : decode cX7_apply 63 = .ok (.iload_n 1, 1) := by decide +kernel
theorem dX7_apply_64 : decode cX7_apply 64 = .ok (.bipush 88, 2) := by decide +kernel
theorem dX7_apply_66 : decode cX7_apply 66 = .ok (.if_icmp .ne 13, 3) := by decide +kernel
theorem dX7_apply_69 : decode cX7_apply 69 = .ok (.aload_n 0, 1) := by decide +kernel
theorem dX7_apply_70 : decode cX7_apply 70 = .ok (.iconst 1, 1) := by decide +kernel
theorem dX7_apply_71 : decode cX7_apply 71 = .ok (.iload_n 2, 1) := by decide +kernel
theorem dX7_apply_72 : decode cX7_apply 72 = .ok (.iconst 0, 1) := by decide +kernel
theorem dX7_apply_73 : decode cX7_apply 73 = .ok (.invokevirtual 147, 3) := by decide +kernel
theorem dX7_apply_76 : decode cX7_apply 76 = .ok (.goto 42, 3) := by decide +kernel
theorem dX7_apply_79 : decode cX7_apply 79 = .ok (.iload_n 1, 1) := by decide +kernel
theorem dX7_apply_80 : decode cX7_apply 80 = .ok (.bipush 78, 2) := by decide +kernel
theorem dX7_apply_82 : decode cX7_apply 82 = .ok (.if_icmp .ne 13, 3) := by decide +kernel
theorem dX7_apply_85 : decode cX7_apply 85 = .ok (.aload_n 0, 1) := by decide +kernel
theorem dX7_apply_86 : decode cX7_apply 86 = .ok (.iconst 2, 1) := by decide +kernel
theorem dX7_apply_87 : decode cX7_apply 87 = .ok (.iload_n 2, 1) := by decide +kernel
theorem dX7_apply_88 : decode cX7_apply 88 = .ok (.iconst 0, 1) := by decide +kernel
theorem dX7_apply_89 : decode cX7_apply 89 = .ok (.invokevirtual 147, 3) := by decide +kernel
theorem dX7_apply_92 : decode cX7_apply 92 = .ok (.goto 26, 3) := by decide +kernel
theorem dX7_apply_95 : decode cX7_apply 95 = .ok (.iload_n 1, 1) := by decide +kernel
theorem dX7_apply_96 : decode cX7_apply 96 = .ok (.bipush 71, 2) := by decide +kernel
theorem dX7_apply_98 : decode cX7_apply 98 = .ok (.if_icmp .ne 13, 3) := by decide +kernel
theorem dX7_apply_101 : decode cX7_apply 101 = .ok (.aload_n 0, 1) := by decide +kernel
theorem dX7_apply_102 : decode cX7_apply 102 = .ok (.iconst 4, 1) := by decide +kernel
theorem dX7_apply_103 : decode cX7_apply 103 = .ok (.iconst 0, 1) := by decide +kernel
theorem dX7_apply_104 : decode cX7_apply 104 = .ok (.iload_n 2, 1) := by decide +kernel
theorem dX7_apply_105 : decode cX7_apply 105 = .ok (.invokevirtual 147, 3) := by decide +kernel
theorem dX7_apply_108 : decode cX7_apply 108 = .ok (.goto 10, 3) := by decide +kernel
theorem dX7_apply_111 : decode cX7_apply 111 = .ok (.aload_n 0, 1) := by decide +kernel
theorem dX7_apply_112 : decode cX7_apply 112 = .ok (.iconst 3, 1) := by decide +kernel
theorem dX7_apply_113 : decode cX7_apply 113 = .ok (.iconst 1, 1) := by decide +kernel
theorem dX7_apply_114 : decode cX7_apply 114 = .ok (.iload_n 2, 1) := by decide +kernel
theorem dX7_apply_115 : decode cX7_apply 115 = .ok (.invokevirtual 147, 3) := by decide +kernel
theorem dX7_apply_118 : decode cX7_apply 118 = .ok (.iastore, 1) := by decide +kernel
theorem dX7_apply_119 : decode cX7_apply 119 = .ok (.return_, 1) := by decide +kernel
theorem dX7_apply_120 : decode cX7_apply 120 = .ok (.aload_n 0, 1) := by decide +kernel
theorem dX7_apply_121 : decode cX7_apply 121 = .ok (.dup, 1) := by decide +kernel
theorem dX7_apply_122 : decode cX7_apply 122 = .ok (.getfield 217, 3) := by decide +kernel
theorem dX7_apply_125 : decode cX7_apply 125 = .ok (.iconst 1, 1) := by decide +kernel
theorem dX7_apply_126 : decode cX7_apply 126 = .ok (.isub, 1) := by decide +kernel
theorem dX7_apply_127 : decode cX7_apply 127 = .ok (.putfield 217, 3) := by decide +kernel
theorem dX7_apply_130 : decode cX7_apply 130 = .ok (.aload_n 0, 1) := by decide +kernel
theorem dX7_apply_131 : decode cX7_apply 131 = .ok (.getfield 49, 3) := by decide +kernel
theorem dX7_apply_134 : decode cX7_apply 134 = .ok (.aload_n 0, 1) := by decide +kernel
theorem dX7_apply_135 : decode cX7_apply 135 = .ok (.getfield 217, 3) := by decide +kernel
theorem dX7_apply_138 : decode cX7_apply 138 = .ok (.iconst 1, 1) := by decide +kernel
theorem dX7_apply_139 : decode cX7_apply 139 = .ok (.isub, 1) := by decide +kernel
theorem dX7_apply_140 : decode cX7_apply 140 = .ok (.iaload, 1) := by decide +kernel
theorem dX7_apply_141 : decode cX7_apply 141 = .ok (.istore_n 3, 1) := by decide +kernel
theorem dX7_apply_142 : decode cX7_apply 142 = .ok (.aload_n 0, 1) := by decide +kernel
theorem dX7_apply_143 : decode cX7_apply 143 = .ok (.getfield 49, 3) := by decide +kernel
theorem dX7_apply_146 : decode cX7_apply 146 = .ok (.aload_n 0, 1) := by decide +kernel
theorem dX7_apply_147 : decode cX7_apply 147 = .ok (.getfield 217, 3) := by decide +kernel
theorem dX7_apply_150 : decode cX7_apply 150 = .ok (.iconst 1, 1) := by decide +kernel
theorem dX7_apply_151 : decode cX7_apply 151 = .ok (.isub, 1) := by decide +kernel
theorem dX7_apply_152 : decode cX7_apply 152 = .ok (.iload_n 1, 1) := by decide +kernel
theorem dX7_apply_153 : decode cX7_apply 153 = .ok (.bipush 124, 2) := by decide +kernel
theorem dX7_apply_155 : decode cX7_apply 155 = .ok (.if_icmp .ne 14, 3) := by decide +kernel
theorem dX7_apply_158 : decode cX7_apply 158 = .ok (.aload_n 0, 1) := by decide +kernel
theorem dX7_apply_159 : decode cX7_apply 159 = .ok (.bipush 6, 2) := by decide +kernel
theorem dX7_apply_161 : decode cX7_apply 161 = .ok (.iload_n 3, 1) := by decide +kernel
theorem dX7_apply_162 : decode cX7_apply 162 = .ok (.iload_n 2, 1) := by decide +kernel
theorem dX7_apply_163 : decode cX7_apply 163 = .ok (.invokevirtual 137, 3) := by decide +kernel
theorem dX7_apply_166 : decode cX7_apply 166 = .ok (.goto 36, 3) := by decide +kernel
theorem dX7_apply_169 : decode cX7_apply 169 = .ok (.iload_n 1, 1) := by decide +kernel
theorem dX7_apply_170 : decode cX7_apply 170 = .ok (.bipush 38, 2) := by decide +kernel
theorem dX7_apply_172 : decode cX7_apply 172 = .ok (.if_icmp .ne 13, 3) := by decide +kernel
theorem dX7_apply_175 : decode cX7_apply 175 = .ok (.aload_n 0, 1) := by decide +kernel
theorem dX7_apply_176 : decode cX7_apply 176 = .ok (.iconst 5, 1) := by decide +kernel
theorem dX7_apply_177 : decode cX7_apply 177 = .ok (.iload_n 3, 1) := by decide +kernel
theorem dX7_apply_178 : decode cX7_apply 178 = .ok (.iload_n 2, 1) := by decide +kernel
theorem dX7_apply_179 : decode cX7_apply 179 = .ok (.invokevirtual 137, 3) := by decide +kernel
theorem dX7_apply_182 : decode cX7_apply 182 = .ok (.goto 20, 3) := by decide +kernel
theorem dX7_apply_185 : decode cX7_apply 185 = .ok (.aload_n 0, 1) := by decide +kernel
theorem dX7_apply_186 : decode cX7_apply 186 = .ok (.iload_n 1, 1) := by decide +kernel
theorem dX7_apply_187 : decode cX7_apply 187 = .ok (.bipush 85, 2) := by decide +kernel
theorem dX7_apply_189 : decode cX7_apply 189 = .ok (.if_icmp .ne 7, 3) := by decide +kernel
theorem dX7_apply_192 : decode cX7_apply 192 = .ok (.iconst 3, 1) := by decide +kernel
theorem dX7_apply_193 : decode cX7_apply 193 = .ok (.goto 4, 3) := by decide +kernel
theorem dX7_apply_196 : decode cX7_apply 196 = .ok (.iconst 4, 1) := by decide +kernel
theorem dX7_apply_197 : decode cX7_apply 197 = .ok (.iload_n 3, 1) := by decide +kernel
theorem dX7_apply_198 : decode cX7_apply 198 = .ok (.iload_n 2, 1) := by decide +kernel
theorem dX7_apply_199 : decode cX7_apply 199 = .ok (.invokevirtual 147, 3) := by decide +kernel
theorem dX7_apply_202 : decode cX7_apply 202 = .ok (.iastore, 1) := by decide +kernel
theorem dX7_apply_203 : decode cX7_apply 203 = .ok (.return_, 1) := by decide +kernel
theorem dX7_applyAhead_0 : decode cX7_applyAhead 0 = .ok (.aload_n 0, 1) := by decide +kernel
theorem dX7_applyAhead_1 : decode cX7_applyAhead 1 = .ok (.getfield 214, 3) := by decide +kernel
theorem dX7_applyAhead_4 : decode cX7_applyAhead 4 = .ok (.ifCond .le 27, 3) := by decide +kernel
theorem dX7_applyAhead_7 : decode cX7_applyAhead 7 = .ok (.aload_n 0, 1) := by decide +kernel
theorem dX7_applyAhead_8 : decode cX7_applyAhead 8 = .ok (.getfield 52, 3) := by decide +kernel
theorem dX7_applyAhead_11 : decode cX7_applyAhead 11 = .ok (.aload_n 0, 1) := by decide +kernel
theorem dX7_applyAhead_12 : decode cX7_applyAhead 12 = .ok (.getfield 214, 3) := by decide +kernel
theorem dX7_applyAhead_15 : decode cX7_applyAhead 15 = .ok (.iconst 1, 1) := by decide +kernel
theorem dX7_applyAhead_16 : decode cX7_applyAhead 16 = .ok (.isub, 1) := by decide +kernel
theorem dX7_applyAhead_17 : decode cX7_applyAhead 17 = .ok (.caload, 1) := by decide +kernel
theorem dX7_applyAhead_18 : decode cX7_applyAhead 18 = .ok (.invokestatic 207, 3) := by decide +kernel
theorem dX7_applyAhead_21 : decode cX7_applyAhead 21 = .ok (.ifCond .eq 10, 3) := by decide +kernel
theorem dX7_applyAhead_24 : decode cX7_applyAhead 24 = .ok (.aload_n 0, 1) := by decide +kernel
theorem dX7_applyAhead_25 : decode cX7_applyAhead 25 = .ok (.invokevirtual 223, 3) := by decide +kernel
theorem dX7_applyAhead_28 : decode cX7_applyAhead 28 = .ok (.goto (-28), 3) := by decide +kernel
theorem dX7_applyAhead_31 : decode cX7_applyAhead 31 = .ok (.return_, 1) := by decide +kernel
theorem dX7_readOne_0 : decode cX7_readOne 0 = .ok (.iload_n 1, 1) := by decide +kernel
theorem dX7_readOne_1 : decode cX7_readOne 1 = .ok (.invokestatic 203, 3) := by decide +kernel
theorem dX7_readOne_4 : decode cX7_readOne 4 = .ok (.ifCond .eq 53, 3) := by decide +kernel
theorem dX7_readOne_7 : decode cX7_readOne 7 = .ok (.aload_n 0, 1) := by decide +kernel
theorem dX7_readOne_8 : decode cX7_readOne 8 = .ok (.getfield 49, 3) := by decide +kernel
theorem dX7_readOne_11 : decode cX7_readOne 11 = .ok (.aload_n 0, 1) := by decide +kernel
theorem dX7_readOne_12 : decode cX7_readOne 12 = .ok (.getfield 217, 3) := by decide +kernel
theorem dX7_readOne_15 : decode cX7_readOne 15 = .ok (.iload_n 1, 1) := by decide +kernel
theorem dX7_readOne_16 : decode cX7_readOne 16 = .ok (.bipush 48, 2) := by decide +kernel
theorem dX7_readOne_18 : decode cX7_readOne 18 = .ok (.if_icmp .ne 7, 3) := by decide +kernel
theorem dX7_readOne_21 : decode cX7_readOne 21 = .ok (.iconst 0, 1) := by decide +kernel
theorem dX7_readOne_22 : decode cX7_readOne 22 = .ok (.goto 19, 3) := by decide +kernel
theorem dX7_readOne_25 : decode cX7_readOne 25 = .ok (.iload_n 1, 1) := by decide +kernel
theorem dX7_readOne_26 : decode cX7_readOne 26 = .ok (.bipush 49, 2) := by decide +kernel
theorem dX7_readOne_28 : decode cX7_readOne 28 = .ok (.if_icmp .ne 7, 3) := by decide +kernel
theorem dX7_readOne_31 : decode cX7_readOne 31 = .ok (.iconst 1, 1) := by decide +kernel
theorem dX7_readOne_32 : decode cX7_readOne 32 = .ok (.goto 9, 3) := by decide +kernel
theorem dX7_readOne_35 : decode cX7_readOne 35 = .ok (.iconst 4, 1) := by decide +kernel
theorem dX7_readOne_36 : decode cX7_readOne 36 = .ok (.iload_n 1, 1) := by decide +kernel
theorem dX7_readOne_37 : decode cX7_readOne 37 = .ok (.iadd, 1) := by decide +kernel
theorem dX7_readOne_38 : decode cX7_readOne 38 = .ok (.bipush 97, 2) := by decide +kernel
theorem dX7_readOne_40 : decode cX7_readOne 40 = .ok (.isub, 1) := by decide +kernel
theorem dX7_readOne_41 : decode cX7_readOne 41 = .ok (.iastore, 1) := by decide +kernel
theorem dX7_readOne_42 : decode cX7_readOne 42 = .ok (.aload_n 0, 1) := by decide +kernel
theorem dX7_readOne_43 : decode cX7_readOne 43 = .ok (.dup, 1) := by decide +kernel
theorem dX7_readOne_44 : decode cX7_readOne 44 = .ok (.getfield 217, 3) := by decide +kernel
theorem dX7_readOne_47 : decode cX7_readOne 47 = .ok (.iconst 1, 1) := by decide +kernel
theorem dX7_readOne_48 : decode cX7_readOne 48 = .ok (.iadd, 1) := by decide +kernel
theorem dX7_readOne_49 : decode cX7_readOne 49 = .ok (.putfield 217, 3) := by decide +kernel
theorem dX7_readOne_52 : decode cX7_readOne 52 = .ok (.aload_n 0, 1) := by decide +kernel
theorem dX7_readOne_53 : decode cX7_readOne 53 = .ok (.invokevirtual 226, 3) := by decide +kernel
theorem dX7_readOne_56 : decode cX7_readOne 56 = .ok (.return_, 1) := by decide +kernel
theorem dX7_readOne_57 : decode cX7_readOne 57 = .ok (.iload_n 1, 1) := by decide +kernel
theorem dX7_readOne_58 : decode cX7_readOne 58 = .ok (.bipush 41, 2) := by decide +kernel
theorem dX7_readOne_60 : decode cX7_readOne 60 = .ok (.if_icmp .ne 41, 3) := by decide +kernel
theorem dX7_readOne_63 : decode cX7_readOne 63 = .ok (.aload_n 0, 1) := by decide +kernel
theorem dX7_readOne_64 : decode cX7_readOne 64 = .ok (.getfield 52, 3) := by decide +kernel
theorem dX7_readOne_67 : decode cX7_readOne 67 = .ok (.aload_n 0, 1) := by decide +kernel
theorem dX7_readOne_68 : decode cX7_readOne 68 = .ok (.getfield 214, 3) := by decide +kernel
theorem dX7_readOne_71 : decode cX7_readOne 71 = .ok (.iconst 1, 1) := by decide +kernel
theorem dX7_readOne_72 : decode cX7_readOne 72 = .ok (.isub, 1) := by decide +kernel
theorem dX7_readOne_73 : decode cX7_readOne 73 = .ok (.caload, 1) := by decide +kernel
theorem dX7_readOne_74 : decode cX7_readOne 74 = .ok (.bipush 40, 2) := by decide +kernel
theorem dX7_readOne_76 : decode cX7_readOne 76 = .ok (.if_icmp .eq 10, 3) := by decide +kernel
theorem dX7_readOne_79 : decode cX7_readOne 79 = .ok (.aload_n 0, 1) := by decide +kernel
theorem dX7_readOne_80 : decode cX7_readOne 80 = .ok (.invokevirtual 223, 3) := by decide +kernel
theorem dX7_readOne_83 : decode cX7_readOne 83 = .ok (.goto (-20), 3) := by decide +kernel
theorem dX7_readOne_86 : decode cX7_readOne 86 = .ok (.aload_n 0, 1) := by decide +kernel
theorem dX7_readOne_87 : decode cX7_readOne 87 = .ok (.dup, 1) := by decide +kernel
theorem dX7_readOne_88 : decode cX7_readOne 88 = .ok (.getfield 214, 3) := by decide +kernel
theorem dX7_readOne_91 : decode cX7_readOne 91 = .ok (.iconst 1, 1) := by decide +kernel
theorem dX7_readOne_92 : decode cX7_readOne 92 = .ok (.isub, 1) := by decide +kernel
theorem dX7_readOne_93 : decode cX7_readOne 93 = .ok (.putfield 214, 3) := by decide +kernel
theorem dX7_readOne_96 : decode cX7_readOne 96 = .ok (.aload_n 0, 1) := by decide +kernel
theorem dX7_readOne_97 : decode cX7_readOne 97 = .ok (.invokevirtual 226, 3) := by decide +kernel
theorem dX7_readOne_100 : decode cX7_readOne 100 = .ok (.return_, 1) := by decide +kernel
theorem dX7_readOne_101 : decode cX7_readOne 101 = .ok (.iload_n 1, 1) := by decide +kernel
theorem dX7_readOne_102 : decode cX7_readOne 102 = .ok (.invokestatic 210, 3) := by decide +kernel
theorem dX7_readOne_105 : decode cX7_readOne 105 = .ok (.ifCond .le 67, 3) := by decide +kernel
theorem dX7_readOne_108 : decode cX7_readOne 108 = .ok (.aload_n 0, 1) := by decide +kernel
theorem dX7_readOne_109 : decode cX7_readOne 109 = .ok (.getfield 214, 3) := by decide +kernel
theorem dX7_readOne_112 : decode cX7_readOne 112 = .ok (.ifCond .le 60, 3) := by decide +kernel
theorem dX7_readOne_115 : decode cX7_readOne 115 = .ok (.aload_n 0, 1) := by decide +kernel
theorem dX7_readOne_116 : decode cX7_readOne 116 = .ok (.getfield 52, 3) := by decide +kernel
theorem dX7_readOne_119 : decode cX7_readOne 119 = .ok (.aload_n 0, 1) := by decide +kernel
theorem dX7_readOne_120 : decode cX7_readOne 120 = .ok (.getfield 214, 3) := by decide +kernel
theorem dX7_readOne_123 : decode cX7_readOne 123 = .ok (.iconst 1, 1) := by decide +kernel
theorem dX7_readOne_124 : decode cX7_readOne 124 = .ok (.isub, 1) := by decide +kernel
theorem dX7_readOne_125 : decode cX7_readOne 125 = .ok (.caload, 1) := by decide +kernel
theorem dX7_readOne_126 : decode cX7_readOne 126 = .ok (.invokestatic 210, 3) := by decide +kernel
theorem dX7_readOne_129 : decode cX7_readOne 129 = .ok (.iload_n 1, 1) := by decide +kernel
theorem dX7_readOne_130 : decode cX7_readOne 130 = .ok (.invokestatic 210, 3) := by decide +kernel
theorem dX7_readOne_133 : decode cX7_readOne 133 = .ok (.if_icmp .gt 32, 3) := by decide +kernel
theorem dX7_readOne_136 : decode cX7_readOne 136 = .ok (.aload_n 0, 1) := by decide +kernel
theorem dX7_readOne_137 : decode cX7_readOne 137 = .ok (.getfield 52, 3) := by decide +kernel
theorem dX7_readOne_140 : decode cX7_readOne 140 = .ok (.aload_n 0, 1) := by decide +kernel
theorem dX7_readOne_141 : decode cX7_readOne 141 = .ok (.getfield 214, 3) := by decide +kernel
theorem dX7_readOne_144 : decode cX7_readOne 144 = .ok (.iconst 1, 1) := by decide +kernel
theorem dX7_readOne_145 : decode cX7_readOne 145 = .ok (.isub, 1) := by decide +kernel
theorem dX7_readOne_146 : decode cX7_readOne 146 = .ok (.caload, 1) := by decide +kernel
theorem dX7_readOne_147 : decode cX7_readOne 147 = .ok (.invokestatic 210, 3) := by decide +kernel
theorem dX7_readOne_150 : decode cX7_readOne 150 = .ok (.iload_n 1, 1) := by decide +kernel
theorem dX7_readOne_151 : decode cX7_readOne 151 = .ok (.invokestatic 210, 3) := by decide +kernel
theorem dX7_readOne_154 : decode cX7_readOne 154 = .ok (.if_icmp .ne 18, 3) := by decide +kernel
theorem dX7_readOne_157 : decode cX7_readOne 157 = .ok (.iload_n 1, 1) := by decide +kernel
theorem dX7_readOne_158 : decode cX7_readOne 158 = .ok (.invokestatic 210, 3) := by decide +kernel
theorem dX7_readOne_161 : decode cX7_readOne 161 = .ok (.iconst 3, 1) := by decide +kernel
theorem dX7_readOne_162 : decode cX7_readOne 162 = .ok (.if_icmp .ge 10, 3) := by decide +kernel
theorem dX7_readOne_165 : decode cX7_readOne 165 = .ok (.aload_n 0, 1) := by decide +kernel
theorem dX7_readOne_166 : decode cX7_readOne 166 = .ok (.invokevirtual 223, 3) := by decide +kernel
theorem dX7_readOne_169 : decode cX7_readOne 169 = .ok (.goto (-68), 3) := by decide +kernel
theorem dX7_readOne_172 : decode cX7_readOne 172 = .ok (.aload_n 0, 1) := by decide +kernel
theorem dX7_readOne_173 : decode cX7_readOne 173 = .ok (.getfield 52, 3) := by decide +kernel
theorem dX7_readOne_176 : decode cX7_readOne 176 = .ok (.aload_n 0, 1) := by decide +kernel
theorem dX7_readOne_177 : decode cX7_readOne 177 = .ok (.getfield 214, 3) := by decide +kernel
theorem dX7_readOne_180 : decode cX7_readOne 180 = .ok (.iload_n 1, 1) := by decide +kernel
theorem dX7_readOne_181 : decode cX7_readOne 181 = .ok (.castore, 1) := by decide +kernel
theorem dX7_readOne_182 : decode cX7_readOne 182 = .ok (.aload_n 0, 1) := by decide +kernel
theorem dX7_readOne_183 : decode cX7_readOne 183 = .ok (.dup, 1) := by decide +kernel
theorem dX7_readOne_184 : decode cX7_readOne 184 = .ok (.getfield 214, 3) := by decide +kernel
theorem dX7_readOne_187 : decode cX7_readOne 187 = .ok (.iconst 1, 1) := by decide +kernel
theorem dX7_readOne_188 : decode cX7_readOne 188 = .ok (.iadd, 1) := by decide +kernel
theorem dX7_readOne_189 : decode cX7_readOne 189 = .ok (.putfield 214, 3) := by decide +kernel
theorem dX7_readOne_192 : decode cX7_readOne 192 = .ok (.return_, 1) := by decide +kernel
theorem dX7_read_0 : decode cX7_read 0 = .ok (.aload_n 0, 1) := by decide +kernel
theorem dX7_read_1 : decode cX7_read 1 = .ok (.invokevirtual 62, 3) := by decide +kernel
theorem dX7_read_4 : decode cX7_read 4 = .ok (.aload_n 0, 1) := by decide +kernel
theorem dX7_read_5 : decode cX7_read 5 = .ok (.iconst 0, 1) := by decide +kernel
theorem dX7_read_6 : decode cX7_read 6 = .ok (.putfield 217, 3) := by decide +kernel
theorem dX7_read_9 : decode cX7_read 9 = .ok (.aload_n 0, 1) := by decide +kernel
theorem dX7_read_10 : decode cX7_read 10 = .ok (.iconst 0, 1) := by decide +kernel
theorem dX7_read_11 : decode cX7_read 11 = .ok (.putfield 214, 3) := by decide +kernel
theorem dX7_read_14 : decode cX7_read 14 = .ok (.iconst 0, 1) := by decide +kernel
theorem dX7_read_15 : decode cX7_read 15 = .ok (.istore_n 1, 1) := by decide +kernel
theorem dX7_read_16 : decode cX7_read 16 = .ok (.iload_n 1, 1) := by decide +kernel
theorem dX7_read_17 : decode cX7_read 17 = .ok (.aload_n 0, 1) := by decide +kernel
theorem dX7_read_18 : decode cX7_read 18 = .ok (.getfield 200, 3) := by decide +kernel
theorem dX7_read_21 : decode cX7_read 21 = .ok (.if_icmp .ge 19, 3) := by decide +kernel
theorem dX7_read_24 : decode cX7_read 24 = .ok (.aload_n 0, 1) := by decide +kernel
theorem dX7_read_25 : decode cX7_read 25 = .ok (.aload_n 0, 1) := by decide +kernel
theorem dX7_read_26 : decode cX7_read 26 = .ok (.getfield 59, 3) := by decide +kernel
theorem dX7_read_29 : decode cX7_read 29 = .ok (.iload_n 1, 1) := by decide +kernel
theorem dX7_read_30 : decode cX7_read 30 = .ok (.caload, 1) := by decide +kernel
theorem dX7_read_31 : decode cX7_read 31 = .ok (.invokevirtual 229, 3) := by decide +kernel
theorem dX7_read_34 : decode cX7_read 34 = .ok (.iinc 1 1, 3) := by decide +kernel
theorem dX7_read_37 : decode cX7_read 37 = .ok (.goto (-21), 3) := by decide +kernel
theorem dX7_read_40 : decode cX7_read 40 = .ok (.aload_n 0, 1) := by decide +kernel
theorem dX7_read_41 : decode cX7_read 41 = .ok (.getfield 214, 3) := by decide +kernel
theorem dX7_read_44 : decode cX7_read 44 = .ok (.ifCond .le 10, 3) := by decide +kernel
theorem dX7_read_47 : decode cX7_read 47 = .ok (.aload_n 0, 1) := by decide +kernel
theorem dX7_read_48 : decode cX7_read 48 = .ok (.invokevirtual 223, 3) := by decide +kernel
theorem dX7_read_51 : decode cX7_read 51 = .ok (.goto (-11), 3) := by decide +kernel
theorem dX7_read_54 : decode cX7_read 54 = .ok (.aload_n 0, 1) := by decide +kernel
theorem dX7_read_55 : decode cX7_read 55 = .ok (.getfield 49, 3) := by decide +kernel
theorem dX7_read_58 : decode cX7_read 58 = .ok (.iconst 0, 1) := by decide +kernel
theorem dX7_read_59 : decode cX7_read 59 = .ok (.iaload, 1) := by decide +kernel
theorem dX7_read_60 : decode cX7_read 60 = .ok (.ireturn, 1) := by decide +kernel
theorem dX7_partMany_0 : decode cX7_partMany 0 = .ok (.iload_n 1, 1) := by decide +kernel
theorem dX7_partMany_1 : decode cX7_partMany 1 = .ok (.bipush 16, 2) := by decide +kernel
theorem dX7_partMany_3 : decode cX7_partMany 3 = .ok (.if_icmp .lt 22, 3) := by decide +kernel
theorem dX7_partMany_6 : decode cX7_partMany 6 = .ok (.aload_n 0, 1) := by decide +kernel
theorem dX7_partMany_7 : decode cX7_partMany 7 = .ok (.getfield 20, 3) := by decide +kernel
theorem dX7_partMany_10 : decode cX7_partMany 10 = .ok (.iload_n 1, 1) := by decide +kernel
theorem dX7_partMany_11 : decode cX7_partMany 11 = .ok (.iaload, 1) := by decide +kernel
theorem dX7_partMany_12 : decode cX7_partMany 12 = .ok (.iconst 5, 1) := by decide +kernel
theorem dX7_partMany_13 : decode cX7_partMany 13 = .ok (.if_icmp .ne 12, 3) := by decide +kernel
theorem dX7_partMany_16 : decode cX7_partMany 16 = .ok (.aload_n 0, 1) := by decide +kernel
theorem dX7_partMany_17 : decode cX7_partMany 17 = .ok (.getfield 26, 3) := by decide +kernel
theorem dX7_partMany_20 : decode cX7_partMany 20 = .ok (.iload_n 1, 1) := by decide +kernel
theorem dX7_partMany_21 : decode cX7_partMany 21 = .ok (.iaload, 1) := by decide +kernel
theorem dX7_partMany_22 : decode cX7_partMany 22 = .ok (.goto 4, 3) := by decide +kernel
theorem dX7_partMany_25 : decode cX7_partMany 25 = .ok (.iconst 1, 1) := by decide +kernel
theorem dX7_partMany_26 : decode cX7_partMany 26 = .ok (.ireturn, 1) := by decide +kernel
theorem dX7_partForm_0 : decode cX7_partForm 0 = .ok (.iload_n 1, 1) := by decide +kernel
theorem dX7_partForm_1 : decode cX7_partForm 1 = .ok (.bipush 16, 2) := by decide +kernel
theorem dX7_partForm_3 : decode cX7_partForm 3 = .ok (.if_icmp .lt 29, 3) := by decide +kernel
theorem dX7_partForm_6 : decode cX7_partForm 6 = .ok (.aload_n 0, 1) := by decide +kernel
theorem dX7_partForm_7 : decode cX7_partForm 7 = .ok (.getfield 20, 3) := by decide +kernel
theorem dX7_partForm_10 : decode cX7_partForm 10 = .ok (.iload_n 1, 1) := by decide +kernel
theorem dX7_partForm_11 : decode cX7_partForm 11 = .ok (.iaload, 1) := by decide +kernel
theorem dX7_partForm_12 : decode cX7_partForm 12 = .ok (.iconst 5, 1) := by decide +kernel
theorem dX7_partForm_13 : decode cX7_partForm 13 = .ok (.if_icmp .ne 19, 3) := by decide +kernel
theorem dX7_partForm_16 : decode cX7_partForm 16 = .ok (.aload_n 0, 1) := by decide +kernel
theorem dX7_partForm_17 : decode cX7_partForm 17 = .ok (.getfield 43, 3) := by decide +kernel
theorem dX7_partForm_20 : decode cX7_partForm 20 = .ok (.aload_n 0, 1) := by decide +kernel
theorem dX7_partForm_21 : decode cX7_partForm 21 = .ok (.getfield 23, 3) := by decide +kernel
theorem dX7_partForm_24 : decode cX7_partForm 24 = .ok (.iload_n 1, 1) := by decide +kernel
theorem dX7_partForm_25 : decode cX7_partForm 25 = .ok (.iaload, 1) := by decide +kernel
theorem dX7_partForm_26 : decode cX7_partForm 26 = .ok (.iload_n 2, 1) := by decide +kernel
theorem dX7_partForm_27 : decode cX7_partForm 27 = .ok (.iadd, 1) := by decide +kernel
theorem dX7_partForm_28 : decode cX7_partForm 28 = .ok (.iaload, 1) := by decide +kernel
theorem dX7_partForm_29 : decode cX7_partForm 29 = .ok (.goto 4, 3) := by decide +kernel
theorem dX7_partForm_32 : decode cX7_partForm 32 = .ok (.iload_n 1, 1) := by decide +kernel
theorem dX7_partForm_33 : decode cX7_partForm 33 = .ok (.ireturn, 1) := by decide +kernel
theorem dX7_comes_0 : decode cX7_comes 0 = .ok (.aload_n 0, 1) := by decide +kernel
theorem dX7_comes_1 : decode cX7_comes 1 = .ok (.getfield 7, 3) := by decide +kernel
theorem dX7_comes_4 : decode cX7_comes 4 = .ok (.iconst 2, 1) := by decide +kernel
theorem dX7_comes_5 : decode cX7_comes 5 = .ok (.iaload, 1) := by decide +kernel
theorem dX7_comes_6 : decode cX7_comes 6 = .ok (.istore_n 2, 1) := by decide +kernel
theorem dX7_comes_7 : decode cX7_comes 7 = .ok (.iload_n 2, 1) := by decide +kernel
theorem dX7_comes_8 : decode cX7_comes 8 = .ok (.invokestatic 74, 3) := by decide +kernel
theorem dX7_comes_11 : decode cX7_comes 11 = .ok (.istore_n 3, 1) := by decide +kernel
theorem dX7_comes_12 : decode cX7_comes 12 = .ok (.aload_n 0, 1) := by decide +kernel
theorem dX7_comes_13 : decode cX7_comes 13 = .ok (.getfield 7, 3) := by decide +kernel
theorem dX7_comes_16 : decode cX7_comes 16 = .ok (.iload_n 3, 1) := by decide +kernel
theorem dX7_comes_17 : decode cX7_comes 17 = .ok (.iconst 0, 1) := by decide +kernel
theorem dX7_comes_18 : decode cX7_comes 18 = .ok (.iadd, 1) := by decide +kernel
theorem dX7_comes_19 : decode cX7_comes 19 = .ok (.iconst 1, 1) := by decide +kernel
theorem dX7_comes_20 : decode cX7_comes 20 = .ok (.iastore, 1) := by decide +kernel
theorem dX7_comes_21 : decode cX7_comes 21 = .ok (.aload_n 0, 1) := by decide +kernel
theorem dX7_comes_22 : decode cX7_comes 22 = .ok (.getfield 7, 3) := by decide +kernel
theorem dX7_comes_25 : decode cX7_comes 25 = .ok (.iload_n 3, 1) := by decide +kernel
theorem dX7_comes_26 : decode cX7_comes 26 = .ok (.iconst 2, 1) := by decide +kernel
theorem dX7_comes_27 : decode cX7_comes 27 = .ok (.iadd, 1) := by decide +kernel
theorem dX7_comes_28 : decode cX7_comes 28 = .ok (.bipush (-5), 2) := by decide +kernel
theorem dX7_comes_30 : decode cX7_comes 30 = .ok (.iastore, 1) := by decide +kernel
theorem dX7_comes_31 : decode cX7_comes 31 = .ok (.aload_n 0, 1) := by decide +kernel
theorem dX7_comes_32 : decode cX7_comes 32 = .ok (.getfield 7, 3) := by decide +kernel
theorem dX7_comes_35 : decode cX7_comes 35 = .ok (.iload_n 3, 1) := by decide +kernel
theorem dX7_comes_36 : decode cX7_comes 36 = .ok (.iconst 3, 1) := by decide +kernel
theorem dX7_comes_37 : decode cX7_comes 37 = .ok (.iadd, 1) := by decide +kernel
theorem dX7_comes_38 : decode cX7_comes 38 = .ok (.iconst 0, 1) := by decide +kernel
theorem dX7_comes_39 : decode cX7_comes 39 = .ok (.iastore, 1) := by decide +kernel
theorem dX7_comes_40 : decode cX7_comes 40 = .ok (.aload_n 0, 1) := by decide +kernel
theorem dX7_comes_41 : decode cX7_comes 41 = .ok (.getfield 7, 3) := by decide +kernel
theorem dX7_comes_44 : decode cX7_comes 44 = .ok (.iload_n 3, 1) := by decide +kernel
theorem dX7_comes_45 : decode cX7_comes 45 = .ok (.iconst 4, 1) := by decide +kernel
theorem dX7_comes_46 : decode cX7_comes 46 = .ok (.iadd, 1) := by decide +kernel
theorem dX7_comes_47 : decode cX7_comes 47 = .ok (.aload_n 0, 1) := by decide +kernel
theorem dX7_comes_48 : decode cX7_comes 48 = .ok (.getfield 7, 3) := by decide +kernel
theorem dX7_comes_51 : decode cX7_comes 51 = .ok (.iconst 0, 1) := by decide +kernel
theorem dX7_comes_52 : decode cX7_comes 52 = .ok (.iaload, 1) := by decide +kernel
theorem dX7_comes_53 : decode cX7_comes 53 = .ok (.iastore, 1) := by decide +kernel
theorem dX7_comes_54 : decode cX7_comes 54 = .ok (.aload_n 0, 1) := by decide +kernel
theorem dX7_comes_55 : decode cX7_comes 55 = .ok (.getfield 7, 3) := by decide +kernel
theorem dX7_comes_58 : decode cX7_comes 58 = .ok (.iload_n 3, 1) := by decide +kernel
theorem dX7_comes_59 : decode cX7_comes 59 = .ok (.iconst 5, 1) := by decide +kernel
theorem dX7_comes_60 : decode cX7_comes 60 = .ok (.iadd, 1) := by decide +kernel
theorem dX7_comes_61 : decode cX7_comes 61 = .ok (.aload_n 0, 1) := by decide +kernel
theorem dX7_comes_62 : decode cX7_comes 62 = .ok (.iload_n 1, 1) := by decide +kernel
theorem dX7_comes_63 : decode cX7_comes 63 = .ok (.invokevirtual 233, 3) := by decide +kernel
theorem dX7_comes_66 : decode cX7_comes 66 = .ok (.iastore, 1) := by decide +kernel
theorem dX7_comes_67 : decode cX7_comes 67 = .ok (.iconst 0, 1) := by decide +kernel
theorem dX7_comes_68 : decode cX7_comes 68 = .ok (.istore 4, 2) := by decide +kernel
theorem dX7_comes_70 : decode cX7_comes 70 = .ok (.iload 4, 2) := by decide +kernel
theorem dX7_comes_72 : decode cX7_comes 72 = .ok (.aload_n 0, 1) := by decide +kernel
theorem dX7_comes_73 : decode cX7_comes 73 = .ok (.getfield 7, 3) := by decide +kernel
theorem dX7_comes_76 : decode cX7_comes 76 = .ok (.iload_n 3, 1) := by decide +kernel
theorem dX7_comes_77 : decode cX7_comes 77 = .ok (.iconst 5, 1) := by decide +kernel
theorem dX7_comes_78 : decode cX7_comes 78 = .ok (.iadd, 1) := by decide +kernel
theorem dX7_comes_79 : decode cX7_comes 79 = .ok (.iaload, 1) := by decide +kernel
theorem dX7_comes_80 : decode cX7_comes 80 = .ok (.if_icmp .ge 23, 3) := by decide +kernel
theorem dX7_comes_83 : decode cX7_comes 83 = .ok (.aload_n 0, 1) := by decide +kernel
theorem dX7_comes_84 : decode cX7_comes 84 = .ok (.iload_n 2, 1) := by decide +kernel
theorem dX7_comes_85 : decode cX7_comes 85 = .ok (.iload 4, 2) := by decide +kernel
theorem dX7_comes_87 : decode cX7_comes 87 = .ok (.aload_n 0, 1) := by decide +kernel
theorem dX7_comes_88 : decode cX7_comes 88 = .ok (.iload_n 1, 1) := by decide +kernel
theorem dX7_comes_89 : decode cX7_comes 89 = .ok (.iload 4, 2) := by decide +kernel
theorem dX7_comes_91 : decode cX7_comes 91 = .ok (.invokevirtual 236, 3) := by decide +kernel
theorem dX7_comes_94 : decode cX7_comes 94 = .ok (.invokevirtual 181, 3) := by decide +kernel
theorem dX7_comes_97 : decode cX7_comes 97 = .ok (.iinc 4 1, 3) := by decide +kernel
theorem dX7_comes_100 : decode cX7_comes 100 = .ok (.goto (-30), 3) := by decide +kernel
theorem dX7_comes_103 : decode cX7_comes 103 = .ok (.aload_n 0, 1) := by decide +kernel
theorem dX7_comes_104 : decode cX7_comes 104 = .ok (.getfield 7, 3) := by decide +kernel
theorem dX7_comes_107 : decode cX7_comes 107 = .ok (.iload_n 3, 1) := by decide +kernel
theorem dX7_comes_108 : decode cX7_comes 108 = .ok (.iconst 1, 1) := by decide +kernel
theorem dX7_comes_109 : decode cX7_comes 109 = .ok (.iadd, 1) := by decide +kernel
theorem dX7_comes_110 : decode cX7_comes 110 = .ok (.aload_n 0, 1) := by decide +kernel
theorem dX7_comes_111 : decode cX7_comes 111 = .ok (.iload_n 2, 1) := by decide +kernel
theorem dX7_comes_112 : decode cX7_comes 112 = .ok (.invokevirtual 185, 3) := by decide +kernel
theorem dX7_comes_115 : decode cX7_comes 115 = .ok (.iastore, 1) := by decide +kernel
theorem dX7_comes_116 : decode cX7_comes 116 = .ok (.aload_n 0, 1) := by decide +kernel
theorem dX7_comes_117 : decode cX7_comes 117 = .ok (.getfield 7, 3) := by decide +kernel
theorem dX7_comes_120 : decode cX7_comes 120 = .ok (.iconst 2, 1) := by decide +kernel
theorem dX7_comes_121 : decode cX7_comes 121 = .ok (.dup2, 1) := by decide +kernel
theorem dX7_comes_122 : decode cX7_comes 122 = .ok (.iaload, 1) := by decide +kernel
theorem dX7_comes_123 : decode cX7_comes 123 = .ok (.iconst 1, 1) := by decide +kernel
theorem dX7_comes_124 : decode cX7_comes 124 = .ok (.iadd, 1) := by decide +kernel
theorem dX7_comes_125 : decode cX7_comes 125 = .ok (.iastore, 1) := by decide +kernel
theorem dX7_comes_126 : decode cX7_comes 126 = .ok (.iload_n 2, 1) := by decide +kernel
theorem dX7_comes_127 : decode cX7_comes 127 = .ok (.ireturn, 1) := by decide +kernel
theorem dX7_addWish_0 : decode cX7_addWish 0 = .ok (.aload_n 0, 1) := by decide +kernel
theorem dX7_addWish_1 : decode cX7_addWish 1 = .ok (.invokevirtual 239, 3) := by decide +kernel
theorem dX7_addWish_4 : decode cX7_addWish 4 = .ok (.istore_n 1, 1) := by decide +kernel
theorem dX7_addWish_5 : decode cX7_addWish 5 = .ok (.iload_n 1, 1) := by decide +kernel
theorem dX7_addWish_6 : decode cX7_addWish 6 = .ok (.ifCond .lt 8, 3) := by decide +kernel
theorem dX7_addWish_9 : decode cX7_addWish 9 = .ok (.bipush (-100), 2) := by decide +kernel
theorem dX7_addWish_11 : decode cX7_addWish 11 = .ok (.iload_n 1, 1) := by decide +kernel
theorem dX7_addWish_12 : decode cX7_addWish 12 = .ok (.isub, 1) := by decide +kernel
theorem dX7_addWish_13 : decode cX7_addWish 13 = .ok (.ireturn, 1) := by decide +kernel
theorem dX7_addWish_14 : decode cX7_addWish 14 = .ok (.aload_n 0, 1) := by decide +kernel
theorem dX7_addWish_15 : decode cX7_addWish 15 = .ok (.getfield 7, 3) := by decide +kernel
theorem dX7_addWish_18 : decode cX7_addWish 18 = .ok (.iconst 1, 1) := by decide +kernel
theorem dX7_addWish_19 : decode cX7_addWish 19 = .ok (.iaload, 1) := by decide +kernel
theorem dX7_addWish_20 : decode cX7_addWish 20 = .ok (.iconst 1, 1) := by decide +kernel
theorem dX7_addWish_21 : decode cX7_addWish 21 = .ok (.if_icmp .ne 6, 3) := by decide +kernel
theorem dX7_addWish_24 : decode cX7_addWish 24 = .ok (.bipush (-4), 2) := by decide +kernel
theorem dX7_addWish_26 : decode cX7_addWish 26 = .ok (.ireturn, 1) := by decide +kernel
theorem dX7_addWish_27 : decode cX7_addWish 27 = .ok (.aload_n 0, 1) := by decide +kernel
theorem dX7_addWish_28 : decode cX7_addWish 28 = .ok (.invokevirtual 243, 3) := by decide +kernel
theorem dX7_addWish_31 : decode cX7_addWish 31 = .ok (.istore_n 2, 1) := by decide +kernel
theorem dX7_addWish_32 : decode cX7_addWish 32 = .ok (.aload_n 0, 1) := by decide +kernel
theorem dX7_addWish_33 : decode cX7_addWish 33 = .ok (.getfield 7, 3) := by decide +kernel
theorem dX7_addWish_36 : decode cX7_addWish 36 = .ok (.iconst 2, 1) := by decide +kernel
theorem dX7_addWish_37 : decode cX7_addWish 37 = .ok (.iaload, 1) := by decide +kernel
theorem dX7_addWish_38 : decode cX7_addWish 38 = .ok (.bipush 8, 2) := by decide +kernel
theorem dX7_addWish_40 : decode cX7_addWish 40 = .ok (.if_icmp .eq 13, 3) := by decide +kernel
theorem dX7_addWish_43 : decode cX7_addWish 43 = .ok (.aload_n 0, 1) := by decide +kernel
theorem dX7_addWish_44 : decode cX7_addWish 44 = .ok (.iload_n 2, 1) := by decide +kernel
theorem dX7_addWish_45 : decode cX7_addWish 45 = .ok (.invokevirtual 233, 3) := by decide +kernel
theorem dX7_addWish_48 : decode cX7_addWish 48 = .ok (.bipush 8, 2) := by decide +kernel
theorem dX7_addWish_50 : decode cX7_addWish 50 = .ok (.if_icmp .le 6, 3) := by decide +kernel
theorem dX7_addWish_53 : decode cX7_addWish 53 = .ok (.bipush (-3), 2) := by decide +kernel
theorem dX7_addWish_55 : decode cX7_addWish 55 = .ok (.ireturn, 1) := by decide +kernel
theorem dX7_addWish_56 : decode cX7_addWish 56 = .ok (.aload_n 0, 1) := by decide +kernel
theorem dX7_addWish_57 : decode cX7_addWish 57 = .ok (.invokevirtual 191, 3) := by decide +kernel
theorem dX7_addWish_60 : decode cX7_addWish 60 = .ok (.aload_n 0, 1) := by decide +kernel
theorem dX7_addWish_61 : decode cX7_addWish 61 = .ok (.iload_n 2, 1) := by decide +kernel
theorem dX7_addWish_62 : decode cX7_addWish 62 = .ok (.invokevirtual 246, 3) := by decide +kernel
theorem dX7_addWish_65 : decode cX7_addWish 65 = .ok (.ireturn, 1) := by decide +kernel
theorem dX7_allOf_0 : decode cX7_allOf 0 = .ok (.aload_n 0, 1) := by decide +kernel
theorem dX7_allOf_1 : decode cX7_allOf 1 = .ok (.iconst 0, 1) := by decide +kernel
theorem dX7_allOf_2 : decode cX7_allOf 2 = .ok (.putfield 249, 3) := by decide +kernel
theorem dX7_allOf_5 : decode cX7_allOf 5 = .ok (.iconst 0, 1) := by decide +kernel
theorem dX7_allOf_6 : decode cX7_allOf 6 = .ok (.istore_n 2, 1) := by decide +kernel
theorem dX7_allOf_7 : decode cX7_allOf 7 = .ok (.iload_n 2, 1) := by decide +kernel
theorem dX7_allOf_8 : decode cX7_allOf 8 = .ok (.aload_n 0, 1) := by decide +kernel
theorem dX7_allOf_9 : decode cX7_allOf 9 = .ok (.getfield 7, 3) := by decide +kernel
theorem dX7_allOf_12 : decode cX7_allOf 12 = .ok (.iload_n 1, 1) := by decide +kernel
theorem dX7_allOf_13 : decode cX7_allOf 13 = .ok (.invokestatic 74, 3) := by decide +kernel
theorem dX7_allOf_16 : decode cX7_allOf 16 = .ok (.iconst 5, 1) := by decide +kernel
theorem dX7_allOf_17 : decode cX7_allOf 17 = .ok (.iadd, 1) := by decide +kernel
theorem dX7_allOf_18 : decode cX7_allOf 18 = .ok (.iaload, 1) := by decide +kernel
theorem dX7_allOf_19 : decode cX7_allOf 19 = .ok (.if_icmp .ge 31, 3) := by decide +kernel
theorem dX7_allOf_22 : decode cX7_allOf 22 = .ok (.aload_n 0, 1) := by decide +kernel
theorem dX7_allOf_23 : decode cX7_allOf 23 = .ok (.getfield 56, 3) := by decide +kernel
theorem dX7_allOf_26 : decode cX7_allOf 26 = .ok (.iload_n 2, 1) := by decide +kernel
theorem dX7_allOf_27 : decode cX7_allOf 27 = .ok (.aload_n 0, 1) := by decide +kernel
theorem dX7_allOf_28 : decode cX7_allOf 28 = .ok (.iload_n 1, 1) := by decide +kernel
theorem dX7_allOf_29 : decode cX7_allOf 29 = .ok (.iload_n 2, 1) := by decide +kernel
theorem dX7_allOf_30 : decode cX7_allOf 30 = .ok (.invokevirtual 153, 3) := by decide +kernel
theorem dX7_allOf_33 : decode cX7_allOf 33 = .ok (.iastore, 1) := by decide +kernel
theorem dX7_allOf_34 : decode cX7_allOf 34 = .ok (.aload_n 0, 1) := by decide +kernel
theorem dX7_allOf_35 : decode cX7_allOf 35 = .ok (.dup, 1) := by decide +kernel
theorem dX7_allOf_36 : decode cX7_allOf 36 = .ok (.getfield 249, 3) := by decide +kernel
theorem dX7_allOf_39 : decode cX7_allOf 39 = .ok (.iconst 1, 1) := by decide +kernel
theorem dX7_allOf_40 : decode cX7_allOf 40 = .ok (.iadd, 1) := by decide +kernel
theorem dX7_allOf_41 : decode cX7_allOf 41 = .ok (.putfield 249, 3) := by decide +kernel
theorem dX7_allOf_44 : decode cX7_allOf 44 = .ok (.iinc 2 1, 3) := by decide +kernel
theorem dX7_allOf_47 : decode cX7_allOf 47 = .ok (.goto (-40), 3) := by decide +kernel
theorem dX7_allOf_50 : decode cX7_allOf 50 = .ok (.aload_n 0, 1) := by decide +kernel
theorem dX7_allOf_51 : decode cX7_allOf 51 = .ok (.invokevirtual 121, 3) := by decide +kernel
theorem dX7_allOf_54 : decode cX7_allOf 54 = .ok (.iconst 0, 1) := by decide +kernel
theorem dX7_allOf_55 : decode cX7_allOf 55 = .ok (.istore_n 2, 1) := by decide +kernel
theorem dX7_allOf_56 : decode cX7_allOf 56 = .ok (.iload_n 2, 1) := by decide +kernel
theorem dX7_allOf_57 : decode cX7_allOf 57 = .ok (.aload_n 0, 1) := by decide +kernel
theorem dX7_allOf_58 : decode cX7_allOf 58 = .ok (.getfield 249, 3) := by decide +kernel
theorem dX7_allOf_61 : decode cX7_allOf 61 = .ok (.if_icmp .ge 20, 3) := by decide +kernel
theorem dX7_allOf_64 : decode cX7_allOf 64 = .ok (.aload_n 0, 1) := by decide +kernel
theorem dX7_allOf_65 : decode cX7_allOf 65 = .ok (.iconst 5, 1) := by decide +kernel
theorem dX7_allOf_66 : decode cX7_allOf 66 = .ok (.aload_n 0, 1) := by decide +kernel
theorem dX7_allOf_67 : decode cX7_allOf 67 = .ok (.getfield 56, 3) := by decide +kernel
theorem dX7_allOf_70 : decode cX7_allOf 70 = .ok (.iload_n 2, 1) := by decide +kernel
theorem dX7_allOf_71 : decode cX7_allOf 71 = .ok (.iaload, 1) := by decide +kernel
theorem dX7_allOf_72 : decode cX7_allOf 72 = .ok (.invokevirtual 124, 3) := by decide +kernel
theorem dX7_allOf_75 : decode cX7_allOf 75 = .ok (.iinc 2 1, 3) := by decide +kernel
theorem dX7_allOf_78 : decode cX7_allOf 78 = .ok (.goto (-22), 3) := by decide +kernel
theorem dX7_allOf_81 : decode cX7_allOf 81 = .ok (.aload_n 0, 1) := by decide +kernel
theorem dX7_allOf_82 : decode cX7_allOf 82 = .ok (.iconst 5, 1) := by decide +kernel
theorem dX7_allOf_83 : decode cX7_allOf 83 = .ok (.invokevirtual 127, 3) := by decide +kernel
theorem dX7_allOf_86 : decode cX7_allOf 86 = .ok (.ireturn, 1) := by decide +kernel
theorem dX7_join_0 : decode cX7_join 0 = .ok (.aload_n 0, 1) := by decide +kernel
theorem dX7_join_1 : decode cX7_join 1 = .ok (.iload_n 1, 1) := by decide +kernel
theorem dX7_join_2 : decode cX7_join 2 = .ok (.invokevirtual 174, 3) := by decide +kernel
theorem dX7_join_5 : decode cX7_join 5 = .ok (.ifCond .eq 11, 3) := by decide +kernel
theorem dX7_join_8 : decode cX7_join 8 = .ok (.aload_n 0, 1) := by decide +kernel
theorem dX7_join_9 : decode cX7_join 9 = .ok (.iload_n 2, 1) := by decide +kernel
theorem dX7_join_10 : decode cX7_join 10 = .ok (.invokevirtual 174, 3) := by decide +kernel
theorem dX7_join_13 : decode cX7_join 13 = .ok (.ifCond .ne 5, 3) := by decide +kernel
theorem dX7_join_16 : decode cX7_join 16 = .ok (.iconst (-1), 1) := by decide +kernel
theorem dX7_join_17 : decode cX7_join 17 = .ok (.ireturn, 1) := by decide +kernel
theorem dX7_join_18 : decode cX7_join 18 = .ok (.aload_n 0, 1) := by decide +kernel
theorem dX7_join_19 : decode cX7_join 19 = .ok (.getfield 7, 3) := by decide +kernel
theorem dX7_join_22 : decode cX7_join 22 = .ok (.iconst 1, 1) := by decide +kernel
theorem dX7_join_23 : decode cX7_join 23 = .ok (.iaload, 1) := by decide +kernel
theorem dX7_join_24 : decode cX7_join 24 = .ok (.iconst 1, 1) := by decide +kernel
theorem dX7_join_25 : decode cX7_join 25 = .ok (.if_icmp .ne 6, 3) := by decide +kernel
theorem dX7_join_28 : decode cX7_join 28 = .ok (.bipush (-4), 2) := by decide +kernel
theorem dX7_join_30 : decode cX7_join 30 = .ok (.ireturn, 1) := by decide +kernel
theorem dX7_join_31 : decode cX7_join 31 = .ok (.aload_n 0, 1) := by decide +kernel
theorem dX7_join_32 : decode cX7_join 32 = .ok (.invokevirtual 62, 3) := by decide +kernel
theorem dX7_join_35 : decode cX7_join 35 = .ok (.aload_n 0, 1) := by decide +kernel
theorem dX7_join_36 : decode cX7_join 36 = .ok (.iload_n 1, 1) := by decide +kernel
theorem dX7_join_37 : decode cX7_join 37 = .ok (.invokevirtual 252, 3) := by decide +kernel
theorem dX7_join_40 : decode cX7_join 40 = .ok (.istore 4, 2) := by decide +kernel
theorem dX7_join_42 : decode cX7_join 42 = .ok (.aload_n 0, 1) := by decide +kernel
theorem dX7_join_43 : decode cX7_join 43 = .ok (.iload_n 3, 1) := by decide +kernel
theorem dX7_join_44 : decode cX7_join 44 = .ok (.ifCond .eq 8, 3) := by decide +kernel
theorem dX7_join_47 : decode cX7_join 47 = .ok (.bipush 6, 2) := by decide +kernel
theorem dX7_join_49 : decode cX7_join 49 = .ok (.goto 4, 3) := by decide +kernel
theorem dX7_join_52 : decode cX7_join 52 = .ok (.iconst 5, 1) := by decide +kernel
theorem dX7_join_53 : decode cX7_join 53 = .ok (.iload 4, 2) := by decide +kernel
theorem dX7_join_55 : decode cX7_join 55 = .ok (.aload_n 0, 1) := by decide +kernel
theorem dX7_join_56 : decode cX7_join 56 = .ok (.iload_n 2, 1) := by decide +kernel
theorem dX7_join_57 : decode cX7_join 57 = .ok (.invokevirtual 252, 3) := by decide +kernel
theorem dX7_join_60 : decode cX7_join 60 = .ok (.invokevirtual 137, 3) := by decide +kernel
theorem dX7_join_63 : decode cX7_join 63 = .ok (.istore 5, 2) := by decide +kernel
theorem dX7_join_65 : decode cX7_join 65 = .ok (.aload_n 0, 1) := by decide +kernel
theorem dX7_join_66 : decode cX7_join 66 = .ok (.iload 5, 2) := by decide +kernel
theorem dX7_join_68 : decode cX7_join 68 = .ok (.invokevirtual 233, 3) := by decide +kernel
theorem dX7_join_71 : decode cX7_join 71 = .ok (.bipush 8, 2) := by decide +kernel
theorem dX7_join_73 : decode cX7_join 73 = .ok (.if_icmp .le 7, 3) := by decide +kernel
theorem dX7_join_76 : decode cX7_join 76 = .ok (.iconst 1, 1) := by decide +kernel
theorem dX7_join_77 : decode cX7_join 77 = .ok (.goto 4, 3) := by decide +kernel
theorem dX7_join_80 : decode cX7_join 80 = .ok (.iconst 0, 1) := by decide +kernel
theorem dX7_join_81 : decode cX7_join 81 = .ok (.istore 6, 2) := by decide +kernel
theorem dX7_join_83 : decode cX7_join 83 = .ok (.iconst 0, 1) := by decide +kernel
theorem dX7_join_84 : decode cX7_join 84 = .ok (.istore 7, 2) := by decide +kernel
theorem dX7_join_86 : decode cX7_join 86 = .ok (.iload 7, 2) := by decide +kernel
theorem dX7_join_88 : decode cX7_join 88 = .ok (.aload_n 0, 1) := by decide +kernel
theorem dX7_join_89 : decode cX7_join 89 = .ok (.iload 5, 2) := by decide +kernel
theorem dX7_join_91 : decode cX7_join 91 = .ok (.invokevirtual 233, 3) := by decide +kernel
theorem dX7_join_94 : decode cX7_join 94 = .ok (.if_icmp .ge 39, 3) := by decide +kernel
theorem dX7_join_97 : decode cX7_join 97 = .ok (.iload 6, 2) := by decide +kernel
theorem dX7_join_99 : decode cX7_join 99 = .ok (.ifCond .ne 21, 3) := by decide +kernel
theorem dX7_join_102 : decode cX7_join 102 = .ok (.aload_n 0, 1) := by decide +kernel
theorem dX7_join_103 : decode cX7_join 103 = .ok (.getfield 29, 3) := by decide +kernel
theorem dX7_join_106 : decode cX7_join 106 = .ok (.aload_n 0, 1) := by decide +kernel
theorem dX7_join_107 : decode cX7_join 107 = .ok (.iload 5, 2) := by decide +kernel
theorem dX7_join_109 : decode cX7_join 109 = .ok (.iload 7, 2) := by decide +kernel
theorem dX7_join_111 : decode cX7_join 111 = .ok (.invokevirtual 236, 3) := by decide +kernel
theorem dX7_join_114 : decode cX7_join 114 = .ok (.iaload, 1) := by decide +kernel
theorem dX7_join_115 : decode cX7_join 115 = .ok (.bipush 120, 2) := by decide +kernel
theorem dX7_join_117 : decode cX7_join 117 = .ok (.if_icmp .le 7, 3) := by decide +kernel
theorem dX7_join_120 : decode cX7_join 120 = .ok (.iconst 1, 1) := by decide +kernel
theorem dX7_join_121 : decode cX7_join 121 = .ok (.goto 4, 3) := by decide +kernel
theorem dX7_join_124 : decode cX7_join 124 = .ok (.iconst 0, 1) := by decide +kernel
theorem dX7_join_125 : decode cX7_join 125 = .ok (.istore 6, 2) := by decide +kernel
theorem dX7_join_127 : decode cX7_join 127 = .ok (.iinc 7 1, 3) := by decide +kernel
theorem dX7_join_130 : decode cX7_join 130 = .ok (.goto (-44), 3) := by decide +kernel
theorem dX7_join_133 : decode cX7_join 133 = .ok (.aload_n 0, 1) := by decide +kernel
theorem dX7_join_134 : decode cX7_join 134 = .ok (.getfield 7, 3) := by decide +kernel
theorem dX7_join_137 : decode cX7_join 137 = .ok (.iconst 2, 1) := by decide +kernel
theorem dX7_join_138 : decode cX7_join 138 = .ok (.iaload, 1) := by decide +kernel
theorem dX7_join_139 : decode cX7_join 139 = .ok (.bipush 8, 2) := by decide +kernel
theorem dX7_join_141 : decode cX7_join 141 = .ok (.if_icmp .eq 8, 3) := by decide +kernel
theorem dX7_join_144 : decode cX7_join 144 = .ok (.iload 6, 2) := by decide +kernel
theorem dX7_join_146 : decode cX7_join 146 = .ok (.ifCond .eq 6, 3) := by decide +kernel
theorem dX7_join_149 : decode cX7_join 149 = .ok (.bipush (-3), 2) := by decide +kernel
theorem dX7_join_151 : decode cX7_join 151 = .ok (.ireturn, 1) := by decide +kernel
theorem dX7_join_152 : decode cX7_join 152 = .ok (.aload_n 0, 1) := by decide +kernel
theorem dX7_join_153 : decode cX7_join 153 = .ok (.invokevirtual 191, 3) := by decide +kernel
theorem dX7_join_156 : decode cX7_join 156 = .ok (.aload_n 0, 1) := by decide +kernel
theorem dX7_join_157 : decode cX7_join 157 = .ok (.iload 5, 2) := by decide +kernel
theorem dX7_join_159 : decode cX7_join 159 = .ok (.invokevirtual 246, 3) := by decide +kernel
theorem dX7_join_162 : decode cX7_join 162 = .ok (.ireturn, 1) := by decide +kernel
theorem dX7_thereMany_0 : decode cX7_thereMany 0 = .ok (.iconst 0, 1) := by decide +kernel
theorem dX7_thereMany_1 : decode cX7_thereMany 1 = .ok (.istore_n 1, 1) := by decide +kernel
theorem dX7_thereMany_2 : decode cX7_thereMany 2 = .ok (.iconst 0, 1) := by decide +kernel
theorem dX7_thereMany_3 : decode cX7_thereMany 3 = .ok (.istore_n 2, 1) := by decide +kernel
theorem dX7_thereMany_4 : decode cX7_thereMany 4 = .ok (.iload_n 2, 1) := by decide +kernel
theorem dX7_thereMany_5 : decode cX7_thereMany 5 = .ok (.bipush 8, 2) := by decide +kernel
theorem dX7_thereMany_7 : decode cX7_thereMany 7 = .ok (.if_icmp .ge 25, 3) := by decide +kernel
theorem dX7_thereMany_10 : decode cX7_thereMany 10 = .ok (.iload_n 1, 1) := by decide +kernel
theorem dX7_thereMany_11 : decode cX7_thereMany 11 = .ok (.aload_n 0, 1) := by decide +kernel
theorem dX7_thereMany_12 : decode cX7_thereMany 12 = .ok (.iload_n 2, 1) := by decide +kernel
theorem dX7_thereMany_13 : decode cX7_thereMany 13 = .ok (.invokevirtual 174, 3) := by decide +kernel
theorem dX7_thereMany_16 : decode cX7_thereMany 16 = .ok (.ifCond .eq 7, 3) := by decide +kernel
theorem dX7_thereMany_19 : decode cX7_thereMany 19 = .ok (.iconst 1, 1) := by decide +kernel
theorem dX7_thereMany_20 : decode cX7_thereMany 20 = .ok (.goto 4, 3) := by decide +kernel
theorem dX7_thereMany_23 : decode cX7_thereMany 23 = .ok (.iconst 0, 1) := by decide +kernel
theorem dX7_thereMany_24 : decode cX7_thereMany 24 = .ok (.iadd, 1) := by decide +kernel
theorem dX7_thereMany_25 : decode cX7_thereMany 25 = .ok (.istore_n 1, 1) := by decide +kernel
theorem dX7_thereMany_26 : decode cX7_thereMany 26 = .ok (.iinc 2 1, 3) := by decide +kernel
theorem dX7_thereMany_29 : decode cX7_thereMany 29 = .ok (.goto (-25), 3) := by decide +kernel
theorem dX7_thereMany_32 : decode cX7_thereMany 32 = .ok (.iload_n 1, 1) := by decide +kernel
theorem dX7_thereMany_33 : decode cX7_thereMany 33 = .ok (.ireturn, 1) := by decide +kernel
theorem dX7_removeWish_0 : decode cX7_removeWish 0 = .ok (.aload_n 0, 1) := by decide +kernel
theorem dX7_removeWish_1 : decode cX7_removeWish 1 = .ok (.iload_n 1, 1) := by decide +kernel
theorem dX7_removeWish_2 : decode cX7_removeWish 2 = .ok (.invokevirtual 174, 3) := by decide +kernel
theorem dX7_removeWish_5 : decode cX7_removeWish 5 = .ok (.ifCond .ne 5, 3) := by decide +kernel
theorem dX7_removeWish_8 : decode cX7_removeWish 8 = .ok (.iconst (-1), 1) := by decide +kernel
theorem dX7_removeWish_9 : decode cX7_removeWish 9 = .ok (.ireturn, 1) := by decide +kernel
theorem dX7_removeWish_10 : decode cX7_removeWish 10 = .ok (.aload_n 0, 1) := by decide +kernel
theorem dX7_removeWish_11 : decode cX7_removeWish 11 = .ok (.invokevirtual 191, 3) := by decide +kernel
theorem dX7_removeWish_14 : decode cX7_removeWish 14 = .ok (.aload_n 0, 1) := by decide +kernel
theorem dX7_removeWish_15 : decode cX7_removeWish 15 = .ok (.getfield 7, 3) := by decide +kernel
theorem dX7_removeWish_18 : decode cX7_removeWish 18 = .ok (.iload_n 1, 1) := by decide +kernel
theorem dX7_removeWish_19 : decode cX7_removeWish 19 = .ok (.invokestatic 74, 3) := by decide +kernel
theorem dX7_removeWish_22 : decode cX7_removeWish 22 = .ok (.iconst 0, 1) := by decide +kernel
theorem dX7_removeWish_23 : decode cX7_removeWish 23 = .ok (.iadd, 1) := by decide +kernel
theorem dX7_removeWish_24 : decode cX7_removeWish 24 = .ok (.iconst 0, 1) := by decide +kernel
theorem dX7_removeWish_25 : decode cX7_removeWish 25 = .ok (.iastore, 1) := by decide +kernel
theorem dX7_removeWish_26 : decode cX7_removeWish 26 = .ok (.aload_n 0, 1) := by decide +kernel
theorem dX7_removeWish_27 : decode cX7_removeWish 27 = .ok (.invokevirtual 255, 3) := by decide +kernel
theorem dX7_removeWish_30 : decode cX7_removeWish 30 = .ok (.ireturn, 1) := by decide +kernel
theorem dX7_type_0 : decode cX7_type 0 = .ok (.aload_n 0, 1) := by decide +kernel
theorem dX7_type_1 : decode cX7_type 1 = .ok (.getfield 200, 3) := by decide +kernel
theorem dX7_type_4 : decode cX7_type 4 = .ok (.bipush 60, 2) := by decide +kernel
theorem dX7_type_6 : decode cX7_type 6 = .ok (.if_icmp .ne 6, 3) := by decide +kernel
theorem dX7_type_9 : decode cX7_type 9 = .ok (.bipush (-3), 2) := by decide +kernel
theorem dX7_type_11 : decode cX7_type 11 = .ok (.ireturn, 1) := by decide +kernel
theorem dX7_type_12 : decode cX7_type 12 = .ok (.aload_n 0, 1) := by decide +kernel
theorem dX7_type_13 : decode cX7_type 13 = .ok (.getfield 59, 3) := by decide +kernel
theorem dX7_type_16 : decode cX7_type 16 = .ok (.aload_n 0, 1) := by decide +kernel
theorem dX7_type_17 : decode cX7_type 17 = .ok (.getfield 200, 3) := by decide +kernel
theorem dX7_type_20 : decode cX7_type 20 = .ok (.iload_n 1, 1) := by decide +kernel
theorem dX7_type_21 : decode cX7_type 21 = .ok (.castore, 1) := by decide +kernel
theorem dX7_type_22 : decode cX7_type 22 = .ok (.aload_n 0, 1) := by decide +kernel
theorem dX7_type_23 : decode cX7_type 23 = .ok (.dup, 1) := by decide +kernel
theorem dX7_type_24 : decode cX7_type 24 = .ok (.getfield 200, 3) := by decide +kernel
theorem dX7_type_27 : decode cX7_type 27 = .ok (.iconst 1, 1) := by decide +kernel
theorem dX7_type_28 : decode cX7_type 28 = .ok (.iadd, 1) := by decide +kernel
theorem dX7_type_29 : decode cX7_type 29 = .ok (.putfield 200, 3) := by decide +kernel
theorem dX7_type_32 : decode cX7_type 32 = .ok (.aload_n 0, 1) := by decide +kernel
theorem dX7_type_33 : decode cX7_type 33 = .ok (.getfield 200, 3) := by decide +kernel
theorem dX7_type_36 : decode cX7_type 36 = .ok (.ireturn, 1) := by decide +kernel
theorem dX7_clearText_0 : decode cX7_clearText 0 = .ok (.aload_n 0, 1) := by decide +kernel
theorem dX7_clearText_1 : decode cX7_clearText 1 = .ok (.getfield 200, 3) := by decide +kernel
theorem dX7_clearText_4 : decode cX7_clearText 4 = .ok (.istore_n 1, 1) := by decide +kernel
theorem dX7_clearText_5 : decode cX7_clearText 5 = .ok (.aload_n 0, 1) := by decide +kernel
theorem dX7_clearText_6 : decode cX7_clearText 6 = .ok (.iconst 0, 1) := by decide +kernel
theorem dX7_clearText_7 : decode cX7_clearText 7 = .ok (.putfield 200, 3) := by decide +kernel
theorem dX7_clearText_10 : decode cX7_clearText 10 = .ok (.iload_n 1, 1) := by decide +kernel
theorem dX7_clearText_11 : decode cX7_clearText 11 = .ok (.ireturn, 1) := by decide +kernel
theorem dX7_undo_0 : decode cX7_undo 0 = .ok (.aload_n 0, 1) := by decide +kernel
theorem dX7_undo_1 : decode cX7_undo 1 = .ok (.getfield 65, 3) := by decide +kernel
theorem dX7_undo_4 : decode cX7_undo 4 = .ok (.ifCond .ne 6, 3) := by decide +kernel
theorem dX7_undo_7 : decode cX7_undo 7 = .ok (.bipush (-5), 2) := by decide +kernel
theorem dX7_undo_9 : decode cX7_undo 9 = .ok (.ireturn, 1) := by decide +kernel
theorem dX7_undo_10 : decode cX7_undo 10 = .ok (.aload_n 0, 1) := by decide +kernel
theorem dX7_undo_11 : decode cX7_undo 11 = .ok (.dup, 1) := by decide +kernel
theorem dX7_undo_12 : decode cX7_undo 12 = .ok (.getfield 65, 3) := by decide +kernel
theorem dX7_undo_15 : decode cX7_undo 15 = .ok (.iconst 1, 1) := by decide +kernel
theorem dX7_undo_16 : decode cX7_undo 16 = .ok (.isub, 1) := by decide +kernel
theorem dX7_undo_17 : decode cX7_undo 17 = .ok (.putfield 65, 3) := by decide +kernel
theorem dX7_undo_20 : decode cX7_undo 20 = .ok (.iconst 0, 1) := by decide +kernel
theorem dX7_undo_21 : decode cX7_undo 21 = .ok (.istore_n 1, 1) := by decide +kernel
theorem dX7_undo_22 : decode cX7_undo 22 = .ok (.iload_n 1, 1) := by decide +kernel
theorem dX7_undo_23 : decode cX7_undo 23 = .ok (.sipush 31088, 3) := by decide +kernel
theorem dX7_undo_26 : decode cX7_undo 26 = .ok (.if_icmp .ge 30, 3) := by decide +kernel
theorem dX7_undo_29 : decode cX7_undo 29 = .ok (.aload_n 0, 1) := by decide +kernel
theorem dX7_undo_30 : decode cX7_undo 30 = .ok (.getfield 7, 3) := by decide +kernel
theorem dX7_undo_33 : decode cX7_undo 33 = .ok (.iload_n 1, 1) := by decide +kernel
theorem dX7_undo_34 : decode cX7_undo 34 = .ok (.aload_n 0, 1) := by decide +kernel
theorem dX7_undo_35 : decode cX7_undo 35 = .ok (.getfield 14, 3) := by decide +kernel
theorem dX7_undo_38 : decode cX7_undo 38 = .ok (.sipush 31088, 3) := by decide +kernel
theorem dX7_undo_41 : decode cX7_undo 41 = .ok (.aload_n 0, 1) := by decide +kernel
theorem dX7_undo_42 : decode cX7_undo 42 = .ok (.getfield 65, 3) := by decide +kernel
theorem dX7_undo_45 : decode cX7_undo 45 = .ok (.imul, 1) := by decide +kernel
theorem dX7_undo_46 : decode cX7_undo 46 = .ok (.iload_n 1, 1) := by decide +kernel
theorem dX7_undo_47 : decode cX7_undo 47 = .ok (.iadd, 1) := by decide +kernel
theorem dX7_undo_48 : decode cX7_undo 48 = .ok (.iaload, 1) := by decide +kernel
theorem dX7_undo_49 : decode cX7_undo 49 = .ok (.iastore, 1) := by decide +kernel
theorem dX7_undo_50 : decode cX7_undo 50 = .ok (.iinc 1 1, 3) := by decide +kernel
theorem dX7_undo_53 : decode cX7_undo 53 = .ok (.goto (-31), 3) := by decide +kernel
theorem dX7_undo_56 : decode cX7_undo 56 = .ok (.aload_n 0, 1) := by decide +kernel
theorem dX7_undo_57 : decode cX7_undo 57 = .ok (.getfield 65, 3) := by decide +kernel
theorem dX7_undo_60 : decode cX7_undo 60 = .ok (.ireturn, 1) := by decide +kernel
theorem dX7_keep_0 : decode cX7_keep 0 = .ok (.iconst 0, 1) := by decide +kernel
theorem dX7_keep_1 : decode cX7_keep 1 = .ok (.istore_n 1, 1) := by decide +kernel
theorem dX7_keep_2 : decode cX7_keep 2 = .ok (.iload_n 1, 1) := by decide +kernel
theorem dX7_keep_3 : decode cX7_keep 3 = .ok (.sipush 31088, 3) := by decide +kernel
theorem dX7_keep_6 : decode cX7_keep 6 = .ok (.if_icmp .ge 21, 3) := by decide +kernel
theorem dX7_keep_9 : decode cX7_keep 9 = .ok (.aload_n 0, 1) := by decide +kernel
theorem dX7_keep_10 : decode cX7_keep 10 = .ok (.getfield 17, 3) := by decide +kernel
theorem dX7_keep_13 : decode cX7_keep 13 = .ok (.iload_n 1, 1) := by decide +kernel
theorem dX7_keep_14 : decode cX7_keep 14 = .ok (.aload_n 0, 1) := by decide +kernel
theorem dX7_keep_15 : decode cX7_keep 15 = .ok (.getfield 7, 3) := by decide +kernel
theorem dX7_keep_18 : decode cX7_keep 18 = .ok (.iload_n 1, 1) := by decide +kernel
theorem dX7_keep_19 : decode cX7_keep 19 = .ok (.iaload, 1) := by decide +kernel
theorem dX7_keep_20 : decode cX7_keep 20 = .ok (.iastore, 1) := by decide +kernel
theorem dX7_keep_21 : decode cX7_keep 21 = .ok (.iinc 1 1, 3) := by decide +kernel
theorem dX7_keep_24 : decode cX7_keep 24 = .ok (.goto (-22), 3) := by decide +kernel
theorem dX7_keep_27 : decode cX7_keep 27 = .ok (.aload_n 0, 1) := by decide +kernel
theorem dX7_keep_28 : decode cX7_keep 28 = .ok (.iconst 1, 1) := by decide +kernel
theorem dX7_keep_29 : decode cX7_keep 29 = .ok (.putfield 258, 3) := by decide +kernel
theorem dX7_keep_32 : decode cX7_keep 32 = .ok (.aload_n 0, 1) := by decide +kernel
theorem dX7_keep_33 : decode cX7_keep 33 = .ok (.getfield 7, 3) := by decide +kernel
theorem dX7_keep_36 : decode cX7_keep 36 = .ok (.iconst 0, 1) := by decide +kernel
theorem dX7_keep_37 : decode cX7_keep 37 = .ok (.iaload, 1) := by decide +kernel
theorem dX7_keep_38 : decode cX7_keep 38 = .ok (.ireturn, 1) := by decide +kernel
theorem dX7_restore_0 : decode cX7_restore 0 = .ok (.aload_n 0, 1) := by decide +kernel
theorem dX7_restore_1 : decode cX7_restore 1 = .ok (.getfield 258, 3) := by decide +kernel
theorem dX7_restore_4 : decode cX7_restore 4 = .ok (.ifCond .ne 6, 3) := by decide +kernel
theorem dX7_restore_7 : decode cX7_restore 7 = .ok (.bipush (-5), 2) := by decide +kernel
theorem dX7_restore_9 : decode cX7_restore 9 = .ok (.ireturn, 1) := by decide +kernel
theorem dX7_restore_10 : decode cX7_restore 10 = .ok (.aload_n 0, 1) := by decide +kernel
theorem dX7_restore_11 : decode cX7_restore 11 = .ok (.invokevirtual 191, 3) := by decide +kernel
theorem dX7_restore_14 : decode cX7_restore 14 = .ok (.iconst 0, 1) := by decide +kernel
theorem dX7_restore_15 : decode cX7_restore 15 = .ok (.istore_n 1, 1) := by decide +kernel
theorem dX7_restore_16 : decode cX7_restore 16 = .ok (.iload_n 1, 1) := by decide +kernel
theorem dX7_restore_17 : decode cX7_restore 17 = .ok (.sipush 31088, 3) := by decide +kernel
theorem dX7_restore_20 : decode cX7_restore 20 = .ok (.if_icmp .ge 21, 3) := by decide +kernel
theorem dX7_restore_23 : decode cX7_restore 23 = .ok (.aload_n 0, 1) := by decide +kernel
theorem dX7_restore_24 : decode cX7_restore 24 = .ok (.getfield 7, 3) := by decide +kernel
theorem dX7_restore_27 : decode cX7_restore 27 = .ok (.iload_n 1, 1) := by decide +kernel
theorem dX7_restore_28 : decode cX7_restore 28 = .ok (.aload_n 0, 1) := by decide +kernel
theorem dX7_restore_29 : decode cX7_restore 29 = .ok (.getfield 17, 3) := by decide +kernel
theorem dX7_restore_32 : decode cX7_restore 32 = .ok (.iload_n 1, 1) := by decide +kernel
theorem dX7_restore_33 : decode cX7_restore 33 = .ok (.iaload, 1) := by decide +kernel
theorem dX7_restore_34 : decode cX7_restore 34 = .ok (.iastore, 1) := by decide +kernel
theorem dX7_restore_35 : decode cX7_restore 35 = .ok (.iinc 1 1, 3) := by decide +kernel
theorem dX7_restore_38 : decode cX7_restore 38 = .ok (.goto (-22), 3) := by decide +kernel
theorem dX7_restore_41 : decode cX7_restore 41 = .ok (.aload_n 0, 1) := by decide +kernel
theorem dX7_restore_42 : decode cX7_restore 42 = .ok (.getfield 7, 3) := by decide +kernel
theorem dX7_restore_45 : decode cX7_restore 45 = .ok (.iconst 0, 1) := by decide +kernel
theorem dX7_restore_46 : decode cX7_restore 46 = .ok (.iaload, 1) := by decide +kernel
theorem dX7_restore_47 : decode cX7_restore 47 = .ok (.ireturn, 1) := by decide +kernel
theorem dX7_areTrue_0 : decode cX7_areTrue 0 = .ok (.iconst 1, 1) := by decide +kernel
theorem dX7_areTrue_1 : decode cX7_areTrue 1 = .ok (.istore_n 2, 1) := by decide +kernel
theorem dX7_areTrue_2 : decode cX7_areTrue 2 = .ok (.iconst 0, 1) := by decide +kernel
theorem dX7_areTrue_3 : decode cX7_areTrue 3 = .ok (.istore_n 3, 1) := by decide +kernel
theorem dX7_areTrue_4 : decode cX7_areTrue 4 = .ok (.iload_n 3, 1) := by decide +kernel
theorem dX7_areTrue_5 : decode cX7_areTrue 5 = .ok (.aload_n 0, 1) := by decide +kernel
theorem dX7_areTrue_6 : decode cX7_areTrue 6 = .ok (.getfield 7, 3) := by decide +kernel
theorem dX7_areTrue_9 : decode cX7_areTrue 9 = .ok (.iload_n 1, 1) := by decide +kernel
theorem dX7_areTrue_10 : decode cX7_areTrue 10 = .ok (.invokestatic 74, 3) := by decide +kernel
theorem dX7_areTrue_13 : decode cX7_areTrue 13 = .ok (.iconst 5, 1) := by decide +kernel
theorem dX7_areTrue_14 : decode cX7_areTrue 14 = .ok (.iadd, 1) := by decide +kernel
theorem dX7_areTrue_15 : decode cX7_areTrue 15 = .ok (.iaload, 1) := by decide +kernel
theorem dX7_areTrue_16 : decode cX7_areTrue 16 = .ok (.if_icmp .ge 32, 3) := by decide +kernel
theorem dX7_areTrue_19 : decode cX7_areTrue 19 = .ok (.iload_n 2, 1) := by decide +kernel
theorem dX7_areTrue_20 : decode cX7_areTrue 20 = .ok (.ifCond .eq 20, 3) := by decide +kernel
theorem dX7_areTrue_23 : decode cX7_areTrue 23 = .ok (.aload_n 0, 1) := by decide +kernel
theorem dX7_areTrue_24 : decode cX7_areTrue 24 = .ok (.aload_n 0, 1) := by decide +kernel
theorem dX7_areTrue_25 : decode cX7_areTrue 25 = .ok (.iload_n 1, 1) := by decide +kernel
theorem dX7_areTrue_26 : decode cX7_areTrue 26 = .ok (.iload_n 3, 1) := by decide +kernel
theorem dX7_areTrue_27 : decode cX7_areTrue 27 = .ok (.invokevirtual 165, 3) := by decide +kernel
theorem dX7_areTrue_30 : decode cX7_areTrue 30 = .ok (.invokevirtual 197, 3) := by decide +kernel
theorem dX7_areTrue_33 : decode cX7_areTrue 33 = .ok (.ifCond .eq 7, 3) := by decide +kernel
theorem dX7_areTrue_36 : decode cX7_areTrue 36 = .ok (.iconst 1, 1) := by decide +kernel
theorem dX7_areTrue_37 : decode cX7_areTrue 37 = .ok (.goto 4, 3) := by decide +kernel
theorem dX7_areTrue_40 : decode cX7_areTrue 40 = .ok (.iconst 0, 1) := by decide +kernel
theorem dX7_areTrue_41 : decode cX7_areTrue 41 = .ok (.istore_n 2, 1) := by decide +kernel
theorem dX7_areTrue_42 : decode cX7_areTrue 42 = .ok (.iinc 3 1, 3) := by decide +kernel
theorem dX7_areTrue_45 : decode cX7_areTrue 45 = .ok (.goto (-41), 3) := by decide +kernel
theorem dX7_areTrue_48 : decode cX7_areTrue 48 = .ok (.iload_n 2, 1) := by decide +kernel
theorem dX7_areTrue_49 : decode cX7_areTrue 49 = .ok (.ireturn, 1) := by decide +kernel
theorem dX7_sizes_0 : decode cX7_sizes 0 = .ok (.iconst 0, 1) := by decide +kernel
theorem dX7_sizes_1 : decode cX7_sizes 1 = .ok (.istore_n 2, 1) := by decide +kernel
theorem dX7_sizes_2 : decode cX7_sizes 2 = .ok (.iconst 0, 1) := by decide +kernel
theorem dX7_sizes_3 : decode cX7_sizes 3 = .ok (.istore_n 3, 1) := by decide +kernel
theorem dX7_sizes_4 : decode cX7_sizes 4 = .ok (.iload_n 3, 1) := by decide +kernel
theorem dX7_sizes_5 : decode cX7_sizes 5 = .ok (.aload_n 0, 1) := by decide +kernel
theorem dX7_sizes_6 : decode cX7_sizes 6 = .ok (.getfield 7, 3) := by decide +kernel
theorem dX7_sizes_9 : decode cX7_sizes 9 = .ok (.iload_n 1, 1) := by decide +kernel
theorem dX7_sizes_10 : decode cX7_sizes 10 = .ok (.invokestatic 74, 3) := by decide +kernel
theorem dX7_sizes_13 : decode cX7_sizes 13 = .ok (.iconst 5, 1) := by decide +kernel
theorem dX7_sizes_14 : decode cX7_sizes 14 = .ok (.iadd, 1) := by decide +kernel
theorem dX7_sizes_15 : decode cX7_sizes 15 = .ok (.iaload, 1) := by decide +kernel
theorem dX7_sizes_16 : decode cX7_sizes 16 = .ok (.if_icmp .ge 23, 3) := by decide +kernel
theorem dX7_sizes_19 : decode cX7_sizes 19 = .ok (.iload_n 2, 1) := by decide +kernel
theorem dX7_sizes_20 : decode cX7_sizes 20 = .ok (.aload_n 0, 1) := by decide +kernel
theorem dX7_sizes_21 : decode cX7_sizes 21 = .ok (.getfield 29, 3) := by decide +kernel
theorem dX7_sizes_24 : decode cX7_sizes 24 = .ok (.aload_n 0, 1) := by decide +kernel
theorem dX7_sizes_25 : decode cX7_sizes 25 = .ok (.iload_n 1, 1) := by decide +kernel
theorem dX7_sizes_26 : decode cX7_sizes 26 = .ok (.iload_n 3, 1) := by decide +kernel
theorem dX7_sizes_27 : decode cX7_sizes 27 = .ok (.invokevirtual 165, 3) := by decide +kernel
theorem dX7_sizes_30 : decode cX7_sizes 30 = .ok (.iaload, 1) := by decide +kernel
theorem dX7_sizes_31 : decode cX7_sizes 31 = .ok (.iadd, 1) := by decide +kernel
theorem dX7_sizes_32 : decode cX7_sizes 32 = .ok (.istore_n 2, 1) := by decide +kernel
theorem dX7_sizes_33 : decode cX7_sizes 33 = .ok (.iinc 3 1, 3) := by decide +kernel
theorem dX7_sizes_36 : decode cX7_sizes 36 = .ok (.goto (-32), 3) := by decide +kernel
theorem dX7_sizes_39 : decode cX7_sizes 39 = .ok (.iload_n 2, 1) := by decide +kernel
theorem dX7_sizes_40 : decode cX7_sizes 40 = .ok (.ireturn, 1) := by decide +kernel
theorem dX7_wish_0 : decode cX7_wish 0 = .ok (.aload_n 0, 1) := by decide +kernel
theorem dX7_wish_1 : decode cX7_wish 1 = .ok (.iload_n 1, 1) := by decide +kernel
theorem dX7_wish_2 : decode cX7_wish 2 = .ok (.invokevirtual 174, 3) := by decide +kernel
theorem dX7_wish_5 : decode cX7_wish 5 = .ok (.ifCond .ne 5, 3) := by decide +kernel
theorem dX7_wish_8 : decode cX7_wish 8 = .ok (.iconst (-1), 1) := by decide +kernel
theorem dX7_wish_9 : decode cX7_wish 9 = .ok (.ireturn, 1) := by decide +kernel
theorem dX7_wish_10 : decode cX7_wish 10 = .ok (.iload_n 1, 1) := by decide +kernel
theorem dX7_wish_11 : decode cX7_wish 11 = .ok (.invokestatic 74, 3) := by decide +kernel
theorem dX7_wish_14 : decode cX7_wish 14 = .ok (.istore_n 3, 1) := by decide +kernel
theorem dX7_wish_15 : decode cX7_wish 15 = .ok (.iload_n 2, 1) := by decide +kernel
theorem dX7_wish_16 : decode cX7_wish 16 = .ok (.tableswitch 148 0 8 #[52, 61, 70, 77, 84, 93, 102, 133, 139], 52) := by decide +kernel
theorem dX7_wish_68 : decode cX7_wish 68 = .ok (.aload_n 0, 1) := by decide +kernel
theorem dX7_wish_69 : decode cX7_wish 69 = .ok (.getfield 7, 3) := by decide +kernel
theorem dX7_wish_72 : decode cX7_wish 72 = .ok (.iload_n 3, 1) := by decide +kernel
theorem dX7_wish_73 : decode cX7_wish 73 = .ok (.iconst 1, 1) := by decide +kernel
theorem dX7_wish_74 : decode cX7_wish 74 = .ok (.iadd, 1) := by decide +kernel
theorem dX7_wish_75 : decode cX7_wish 75 = .ok (.iaload, 1) := by decide +kernel
theorem dX7_wish_76 : decode cX7_wish 76 = .ok (.ireturn, 1) := by decide +kernel
theorem dX7_wish_77 : decode cX7_wish 77 = .ok (.aload_n 0, 1) := by decide +kernel
theorem dX7_wish_78 : decode cX7_wish 78 = .ok (.getfield 7, 3) := by decide +kernel
theorem dX7_wish_81 : decode cX7_wish 81 = .ok (.iload_n 3, 1) := by decide +kernel
theorem dX7_wish_82 : decode cX7_wish 82 = .ok (.iconst 5, 1) := by decide +kernel
theorem dX7_wish_83 : decode cX7_wish 83 = .ok (.iadd, 1) := by decide +kernel
theorem dX7_wish_84 : decode cX7_wish 84 = .ok (.iaload, 1) := by decide +kernel
theorem dX7_wish_85 : decode cX7_wish 85 = .ok (.ireturn, 1) := by decide +kernel
theorem dX7_wish_86 : decode cX7_wish 86 = .ok (.aload_n 0, 1) := by decide +kernel
theorem dX7_wish_87 : decode cX7_wish 87 = .ok (.iload_n 1, 1) := by decide +kernel
theorem dX7_wish_88 : decode cX7_wish 88 = .ok (.iconst 0, 1) := by decide +kernel
theorem dX7_wish_89 : decode cX7_wish 89 = .ok (.invokevirtual 159, 3) := by decide +kernel
theorem dX7_wish_92 : decode cX7_wish 92 = .ok (.ireturn, 1) := by decide +kernel
theorem dX7_wish_93 : decode cX7_wish 93 = .ok (.aload_n 0, 1) := by decide +kernel
theorem dX7_wish_94 : decode cX7_wish 94 = .ok (.iload_n 1, 1) := by decide +kernel
theorem dX7_wish_95 : decode cX7_wish 95 = .ok (.iconst 1, 1) := by decide +kernel
theorem dX7_wish_96 : decode cX7_wish 96 = .ok (.invokevirtual 159, 3) := by decide +kernel
theorem dX7_wish_99 : decode cX7_wish 99 = .ok (.ireturn, 1) := by decide +kernel
theorem dX7_wish_100 : decode cX7_wish 100 = .ok (.aload_n 0, 1) := by decide +kernel
theorem dX7_wish_101 : decode cX7_wish 101 = .ok (.getfield 7, 3) := by decide +kernel
theorem dX7_wish_104 : decode cX7_wish 104 = .ok (.iload_n 3, 1) := by decide +kernel
theorem dX7_wish_105 : decode cX7_wish 105 = .ok (.iconst 2, 1) := by decide +kernel
theorem dX7_wish_106 : decode cX7_wish 106 = .ok (.iadd, 1) := by decide +kernel
theorem dX7_wish_107 : decode cX7_wish 107 = .ok (.iaload, 1) := by decide +kernel
theorem dX7_wish_108 : decode cX7_wish 108 = .ok (.ireturn, 1) := by decide +kernel
theorem dX7_wish_109 : decode cX7_wish 109 = .ok (.aload_n 0, 1) := by decide +kernel
theorem dX7_wish_110 : decode cX7_wish 110 = .ok (.getfield 7, 3) := by decide +kernel
theorem dX7_wish_113 : decode cX7_wish 113 = .ok (.iload_n 3, 1) := by decide +kernel
theorem dX7_wish_114 : decode cX7_wish 114 = .ok (.iconst 3, 1) := by decide +kernel
theorem dX7_wish_115 : decode cX7_wish 115 = .ok (.iadd, 1) := by decide +kernel
theorem dX7_wish_116 : decode cX7_wish 116 = .ok (.iaload, 1) := by decide +kernel
theorem dX7_wish_117 : decode cX7_wish 117 = .ok (.ireturn, 1) := by decide +kernel
theorem dX7_wish_118 : decode cX7_wish 118 = .ok (.aload_n 0, 1) := by decide +kernel
theorem dX7_wish_119 : decode cX7_wish 119 = .ok (.iload_n 1, 1) := by decide +kernel
theorem dX7_wish_120 : decode cX7_wish 120 = .ok (.invokevirtual 162, 3) := by decide +kernel
theorem dX7_wish_123 : decode cX7_wish 123 = .ok (.iconst 2, 1) := by decide +kernel
theorem dX7_wish_124 : decode cX7_wish 124 = .ok (.if_icmp .ge 11, 3) := by decide +kernel
theorem dX7_wish_127 : decode cX7_wish 127 = .ok (.aload_n 0, 1) := by decide +kernel
theorem dX7_wish_128 : decode cX7_wish 128 = .ok (.iload_n 1, 1) := by decide +kernel
theorem dX7_wish_129 : decode cX7_wish 129 = .ok (.invokevirtual 162, 3) := by decide +kernel
theorem dX7_wish_132 : decode cX7_wish 132 = .ok (.goto 16, 3) := by decide +kernel
theorem dX7_wish_135 : decode cX7_wish 135 = .ok (.aload_n 0, 1) := by decide +kernel
theorem dX7_wish_136 : decode cX7_wish 136 = .ok (.iload_n 1, 1) := by decide +kernel
theorem dX7_wish_137 : decode cX7_wish 137 = .ok (.invokevirtual 261, 3) := by decide +kernel
theorem dX7_wish_140 : decode cX7_wish 140 = .ok (.ifCond .eq 7, 3) := by decide +kernel
theorem dX7_wish_143 : decode cX7_wish 143 = .ok (.iconst 1, 1) := by decide +kernel
theorem dX7_wish_144 : decode cX7_wish 144 = .ok (.goto 4, 3) := by decide +kernel
theorem dX7_wish_147 : decode cX7_wish 147 = .ok (.iconst 0, 1) := by decide +kernel
theorem dX7_wish_148 : decode cX7_wish 148 = .ok (.ireturn, 1) := by decide +kernel
theorem dX7_wish_149 : decode cX7_wish 149 = .ok (.aload_n 0, 1) := by decide +kernel
theorem dX7_wish_150 : decode cX7_wish 150 = .ok (.iload_n 1, 1) := by decide +kernel
theorem dX7_wish_151 : decode cX7_wish 151 = .ok (.invokevirtual 264, 3) := by decide +kernel
theorem dX7_wish_154 : decode cX7_wish 154 = .ok (.ireturn, 1) := by decide +kernel
theorem dX7_wish_155 : decode cX7_wish 155 = .ok (.aload_n 0, 1) := by decide +kernel
theorem dX7_wish_156 : decode cX7_wish 156 = .ok (.getfield 7, 3) := by decide +kernel
theorem dX7_wish_159 : decode cX7_wish 159 = .ok (.iload_n 3, 1) := by decide +kernel
theorem dX7_wish_160 : decode cX7_wish 160 = .ok (.iconst 4, 1) := by decide +kernel
theorem dX7_wish_161 : decode cX7_wish 161 = .ok (.iadd, 1) := by decide +kernel
theorem dX7_wish_162 : decode cX7_wish 162 = .ok (.iaload, 1) := by decide +kernel
theorem dX7_wish_163 : decode cX7_wish 163 = .ok (.ireturn, 1) := by decide +kernel
theorem dX7_wish_164 : decode cX7_wish 164 = .ok (.bipush (-2), 2) := by decide +kernel
theorem dX7_wish_166 : decode cX7_wish 166 = .ok (.ireturn, 1) := by decide +kernel
theorem dX7_isPart_0 : decode cX7_isPart 0 = .ok (.aload_n 0, 1) := by decide +kernel
theorem dX7_isPart_1 : decode cX7_isPart 1 = .ok (.iload_n 1, 1) := by decide +kernel
theorem dX7_isPart_2 : decode cX7_isPart 2 = .ok (.invokevirtual 174, 3) := by decide +kernel
theorem dX7_isPart_5 : decode cX7_isPart 5 = .ok (.ifCond .eq 28, 3) := by decide +kernel
theorem dX7_isPart_8 : decode cX7_isPart 8 = .ok (.iload_n 2, 1) := by decide +kernel
theorem dX7_isPart_9 : decode cX7_isPart 9 = .ok (.iconst 0, 1) := by decide +kernel
theorem dX7_isPart_10 : decode cX7_isPart 10 = .ok (.aload_n 0, 1) := by decide +kernel
theorem dX7_isPart_11 : decode cX7_isPart 11 = .ok (.getfield 7, 3) := by decide +kernel
theorem dX7_isPart_14 : decode cX7_isPart 14 = .ok (.iload_n 1, 1) := by decide +kernel
theorem dX7_isPart_15 : decode cX7_isPart 15 = .ok (.invokestatic 74, 3) := by decide +kernel
theorem dX7_isPart_18 : decode cX7_isPart 18 = .ok (.iconst 5, 1) := by decide +kernel
theorem dX7_isPart_19 : decode cX7_isPart 19 = .ok (.iadd, 1) := by decide +kernel
theorem dX7_isPart_20 : decode cX7_isPart 20 = .ok (.iaload, 1) := by decide +kernel
theorem dX7_isPart_21 : decode cX7_isPart 21 = .ok (.iconst 1, 1) := by decide +kernel
theorem dX7_isPart_22 : decode cX7_isPart 22 = .ok (.isub, 1) := by decide +kernel
theorem dX7_isPart_23 : decode cX7_isPart 23 = .ok (.invokestatic 70, 3) := by decide +kernel
theorem dX7_isPart_26 : decode cX7_isPart 26 = .ok (.ifCond .eq 7, 3) := by decide +kernel
theorem dX7_isPart_29 : decode cX7_isPart 29 = .ok (.iconst 1, 1) := by decide +kernel
theorem dX7_isPart_30 : decode cX7_isPart 30 = .ok (.goto 4, 3) := by decide +kernel
theorem dX7_isPart_33 : decode cX7_isPart 33 = .ok (.iconst 0, 1) := by decide +kernel
theorem dX7_isPart_34 : decode cX7_isPart 34 = .ok (.ireturn, 1) := by decide +kernel
theorem dX7_letterOf_0 : decode cX7_letterOf 0 = .ok (.iload_n 1, 1) := by decide +kernel
theorem dX7_letterOf_1 : decode cX7_letterOf 1 = .ok (.istore_n 3, 1) := by decide +kernel
theorem dX7_letterOf_2 : decode cX7_letterOf 2 = .ok (.iload_n 2, 1) := by decide +kernel
theorem dX7_letterOf_3 : decode cX7_letterOf 3 = .ok (.istore 4, 2) := by decide +kernel
theorem dX7_letterOf_5 : decode cX7_letterOf 5 = .ok (.iload 4, 2) := by decide +kernel
theorem dX7_letterOf_7 : decode cX7_letterOf 7 = .ok (.ifCond .le 121, 3) := by decide +kernel
theorem dX7_letterOf_10 : decode cX7_letterOf 10 = .ok (.iload_n 3, 1) := by decide +kernel
theorem dX7_letterOf_11 : decode cX7_letterOf 11 = .ok (.bipush 16, 2) := by decide +kernel
theorem dX7_letterOf_13 : decode cX7_letterOf 13 = .ok (.if_icmp .ge 11, 3) := by decide +kernel
theorem dX7_letterOf_16 : decode cX7_letterOf 16 = .ok (.bipush 97, 2) := by decide +kernel
theorem dX7_letterOf_18 : decode cX7_letterOf 18 = .ok (.iload_n 3, 1) := by decide +kernel
theorem dX7_letterOf_19 : decode cX7_letterOf 19 = .ok (.iadd, 1) := by decide +kernel
theorem dX7_letterOf_20 : decode cX7_letterOf 20 = .ok (.bipush 10, 2) := by decide +kernel
theorem dX7_letterOf_22 : decode cX7_letterOf 22 = .ok (.isub, 1) := by decide +kernel
theorem dX7_letterOf_23 : decode cX7_letterOf 23 = .ok (.ireturn, 1) := by decide +kernel
theorem dX7_letterOf_24 : decode cX7_letterOf 24 = .ok (.iinc 4 (-1), 3) := by decide +kernel
theorem dX7_letterOf_27 : decode cX7_letterOf 27 = .ok (.iconst 0, 1) := by decide +kernel
theorem dX7_letterOf_28 : decode cX7_letterOf 28 = .ok (.istore 5, 2) := by decide +kernel
theorem dX7_letterOf_30 : decode cX7_letterOf 30 = .ok (.aload_n 0, 1) := by decide +kernel
theorem dX7_letterOf_31 : decode cX7_letterOf 31 = .ok (.iload_n 3, 1) := by decide +kernel
theorem dX7_letterOf_32 : decode cX7_letterOf 32 = .ok (.invokevirtual 94, 3) := by decide +kernel
theorem dX7_letterOf_35 : decode cX7_letterOf 35 = .ok (.bipush 40, 2) := by decide +kernel
theorem dX7_letterOf_37 : decode cX7_letterOf 37 = .ok (.if_icmp .ne 45, 3) := by decide +kernel
theorem dX7_letterOf_40 : decode cX7_letterOf 40 = .ok (.iload 4, 2) := by decide +kernel
theorem dX7_letterOf_42 : decode cX7_letterOf 42 = .ok (.aload_n 0, 1) := by decide +kernel
theorem dX7_letterOf_43 : decode cX7_letterOf 43 = .ok (.getfield 32, 3) := by decide +kernel
theorem dX7_letterOf_46 : decode cX7_letterOf 46 = .ok (.aload_n 0, 1) := by decide +kernel
theorem dX7_letterOf_47 : decode cX7_letterOf 47 = .ok (.iload_n 3, 1) := by decide +kernel
theorem dX7_letterOf_48 : decode cX7_letterOf 48 = .ok (.iload 5, 2) := by decide +kernel
theorem dX7_letterOf_50 : decode cX7_letterOf 50 = .ok (.invokevirtual 97, 3) := by decide +kernel
theorem dX7_letterOf_53 : decode cX7_letterOf 53 = .ok (.iaload, 1) := by decide +kernel
theorem dX7_letterOf_54 : decode cX7_letterOf 54 = .ok (.if_icmp .le 28, 3) := by decide +kernel
theorem dX7_letterOf_57 : decode cX7_letterOf 57 = .ok (.iload 4, 2) := by decide +kernel
theorem dX7_letterOf_59 : decode cX7_letterOf 59 = .ok (.aload_n 0, 1) := by decide +kernel
theorem dX7_letterOf_60 : decode cX7_letterOf 60 = .ok (.getfield 32, 3) := by decide +kernel
theorem dX7_letterOf_63 : decode cX7_letterOf 63 = .ok (.aload_n 0, 1) := by decide +kernel
theorem dX7_letterOf_64 : decode cX7_letterOf 64 = .ok (.iload_n 3, 1) := by decide +kernel
theorem dX7_letterOf_65 : decode cX7_letterOf 65 = .ok (.iload 5, 2) := by decide +kernel
theorem dX7_letterOf_67 : decode cX7_letterOf 67 = .ok (.invokevirtual 97, 3) := by decide +kernel
theorem dX7_letterOf_70 : decode cX7_letterOf 70 = .ok (.iaload, 1) := by decide +kernel
theorem dX7_letterOf_71 : decode cX7_letterOf 71 = .ok (.iconst 1, 1) := by decide +kernel
theorem dX7_letterOf_72 : decode cX7_letterOf 72 = .ok (.iadd, 1) := by decide +kernel
theorem dX7_letterOf_73 : decode cX7_letterOf 73 = .ok (.isub, 1) := by decide +kernel
theorem dX7_letterOf_74 : decode cX7_letterOf 74 = .ok (.istore 4, 2) := by decide +kernel
theorem dX7_letterOf_76 : decode cX7_letterOf 76 = .ok (.iinc 5 1, 3) := by decide +kernel
theorem dX7_letterOf_79 : decode cX7_letterOf 79 = .ok (.goto (-49), 3) := by decide +kernel
theorem dX7_letterOf_82 : decode cX7_letterOf 82 = .ok (.aload_n 0, 1) := by decide +kernel
theorem dX7_letterOf_83 : decode cX7_letterOf 83 = .ok (.iload_n 3, 1) := by decide +kernel
theorem dX7_letterOf_84 : decode cX7_letterOf 84 = .ok (.invokevirtual 94, 3) := by decide +kernel
theorem dX7_letterOf_87 : decode cX7_letterOf 87 = .ok (.bipush 40, 2) := by decide +kernel
theorem dX7_letterOf_89 : decode cX7_letterOf 89 = .ok (.if_icmp .ne 28, 3) := by decide +kernel
theorem dX7_letterOf_92 : decode cX7_letterOf 92 = .ok (.iload 4, 2) := by decide +kernel
theorem dX7_letterOf_94 : decode cX7_letterOf 94 = .ok (.aload_n 0, 1) := by decide +kernel
theorem dX7_letterOf_95 : decode cX7_letterOf 95 = .ok (.getfield 32, 3) := by decide +kernel
theorem dX7_letterOf_98 : decode cX7_letterOf 98 = .ok (.aload_n 0, 1) := by decide +kernel
theorem dX7_letterOf_99 : decode cX7_letterOf 99 = .ok (.iload_n 3, 1) := by decide +kernel
theorem dX7_letterOf_100 : decode cX7_letterOf 100 = .ok (.iload 5, 2) := by decide +kernel
theorem dX7_letterOf_102 : decode cX7_letterOf 102 = .ok (.invokevirtual 97, 3) := by decide +kernel
theorem dX7_letterOf_105 : decode cX7_letterOf 105 = .ok (.iaload, 1) := by decide +kernel
theorem dX7_letterOf_106 : decode cX7_letterOf 106 = .ok (.if_icmp .ne 11, 3) := by decide +kernel
theorem dX7_letterOf_109 : decode cX7_letterOf 109 = .ok (.aload_n 0, 1) := by decide +kernel
theorem dX7_letterOf_110 : decode cX7_letterOf 110 = .ok (.iload_n 3, 1) := by decide +kernel
theorem dX7_letterOf_111 : decode cX7_letterOf 111 = .ok (.iload 5, 2) := by decide +kernel
theorem dX7_letterOf_113 : decode cX7_letterOf 113 = .ok (.invokevirtual 101, 3) := by decide +kernel
theorem dX7_letterOf_116 : decode cX7_letterOf 116 = .ok (.ireturn, 1) := by decide +kernel
theorem dX7_letterOf_117 : decode cX7_letterOf 117 = .ok (.aload_n 0, 1) := by decide +kernel
theorem dX7_letterOf_118 : decode cX7_letterOf 118 = .ok (.iload_n 3, 1) := by decide +kernel
theorem dX7_letterOf_119 : decode cX7_letterOf 119 = .ok (.iload 5, 2) := by decide +kernel
theorem dX7_letterOf_121 : decode cX7_letterOf 121 = .ok (.invokevirtual 97, 3) := by decide +kernel
theorem dX7_letterOf_124 : decode cX7_letterOf 124 = .ok (.istore_n 3, 1) := by decide +kernel
theorem dX7_letterOf_125 : decode cX7_letterOf 125 = .ok (.goto (-120), 3) := by decide +kernel
theorem dX7_letterOf_128 : decode cX7_letterOf 128 = .ok (.aload_n 0, 1) := by decide +kernel
theorem dX7_letterOf_129 : decode cX7_letterOf 129 = .ok (.iload_n 3, 1) := by decide +kernel
theorem dX7_letterOf_130 : decode cX7_letterOf 130 = .ok (.invokevirtual 94, 3) := by decide +kernel
theorem dX7_letterOf_133 : decode cX7_letterOf 133 = .ok (.ireturn, 1) := by decide +kernel
theorem dX7_letter_0 : decode cX7_letter 0 = .ok (.aload_n 0, 1) := by decide +kernel
theorem dX7_letter_1 : decode cX7_letter 1 = .ok (.iload_n 1, 1) := by decide +kernel
theorem dX7_letter_2 : decode cX7_letter 2 = .ok (.iload_n 2, 1) := by decide +kernel
theorem dX7_letter_3 : decode cX7_letter 3 = .ok (.invokevirtual 267, 3) := by decide +kernel
theorem dX7_letter_6 : decode cX7_letter 6 = .ok (.ifCond .ne 5, 3) := by decide +kernel
theorem dX7_letter_9 : decode cX7_letter 9 = .ok (.iconst (-1), 1) := by decide +kernel
theorem dX7_letter_10 : decode cX7_letter 10 = .ok (.ireturn, 1) := by decide +kernel
theorem dX7_letter_11 : decode cX7_letter 11 = .ok (.iload_n 3, 1) := by decide +kernel
theorem dX7_letter_12 : decode cX7_letter 12 = .ok (.ifCond .ge 6, 3) := by decide +kernel
theorem dX7_letter_15 : decode cX7_letter 15 = .ok (.bipush (-2), 2) := by decide +kernel
theorem dX7_letter_17 : decode cX7_letter 17 = .ok (.ireturn, 1) := by decide +kernel
theorem dX7_letter_18 : decode cX7_letter 18 = .ok (.aload_n 0, 1) := by decide +kernel
theorem dX7_letter_19 : decode cX7_letter 19 = .ok (.iload_n 1, 1) := by decide +kernel
theorem dX7_letter_20 : decode cX7_letter 20 = .ok (.iload_n 2, 1) := by decide +kernel
theorem dX7_letter_21 : decode cX7_letter 21 = .ok (.invokevirtual 165, 3) := by decide +kernel
theorem dX7_letter_24 : decode cX7_letter 24 = .ok (.istore 4, 2) := by decide +kernel
theorem dX7_letter_26 : decode cX7_letter 26 = .ok (.iload_n 3, 1) := by decide +kernel
theorem dX7_letter_27 : decode cX7_letter 27 = .ok (.aload_n 0, 1) := by decide +kernel
theorem dX7_letter_28 : decode cX7_letter 28 = .ok (.getfield 32, 3) := by decide +kernel
theorem dX7_letter_31 : decode cX7_letter 31 = .ok (.iload 4, 2) := by decide +kernel
theorem dX7_letter_33 : decode cX7_letter 33 = .ok (.iaload, 1) := by decide +kernel
theorem dX7_letter_34 : decode cX7_letter 34 = .ok (.if_icmp .ge 13, 3) := by decide +kernel
theorem dX7_letter_37 : decode cX7_letter 37 = .ok (.aload_n 0, 1) := by decide +kernel
theorem dX7_letter_38 : decode cX7_letter 38 = .ok (.iload 4, 2) := by decide +kernel
theorem dX7_letter_40 : decode cX7_letter 40 = .ok (.iload_n 3, 1) := by decide +kernel
theorem dX7_letter_41 : decode cX7_letter 41 = .ok (.invokevirtual 270, 3) := by decide +kernel
theorem dX7_letter_44 : decode cX7_letter 44 = .ok (.goto 5, 3) := by decide +kernel
theorem dX7_letter_47 : decode cX7_letter 47 = .ok (.bipush (-5), 2) := by decide +kernel
theorem dX7_letter_49 : decode cX7_letter 49 = .ok (.ireturn, 1) := by decide +kernel
theorem dX7_signs_0 : decode cX7_signs 0 = .ok (.aload_n 0, 1) := by decide +kernel
theorem dX7_signs_1 : decode cX7_signs 1 = .ok (.iload_n 1, 1) := by decide +kernel
theorem dX7_signs_2 : decode cX7_signs 2 = .ok (.invokevirtual 130, 3) := by decide +kernel
theorem dX7_signs_5 : decode cX7_signs 5 = .ok (.iconst 0, 1) := by decide +kernel
theorem dX7_signs_6 : decode cX7_signs 6 = .ok (.istore_n 2, 1) := by decide +kernel
theorem dX7_signs_7 : decode cX7_signs 7 = .ok (.iconst 0, 1) := by decide +kernel
theorem dX7_signs_8 : decode cX7_signs 8 = .ok (.istore_n 3, 1) := by decide +kernel
theorem dX7_signs_9 : decode cX7_signs 9 = .ok (.iload_n 3, 1) := by decide +kernel
theorem dX7_signs_10 : decode cX7_signs 10 = .ok (.bipush 6, 2) := by decide +kernel
theorem dX7_signs_12 : decode cX7_signs 12 = .ok (.if_icmp .ge 42, 3) := by decide +kernel
theorem dX7_signs_15 : decode cX7_signs 15 = .ok (.iload_n 2, 1) := by decide +kernel
theorem dX7_signs_16 : decode cX7_signs 16 = .ok (.aload_n 0, 1) := by decide +kernel
theorem dX7_signs_17 : decode cX7_signs 17 = .ok (.getfield 38, 3) := by decide +kernel
theorem dX7_signs_20 : decode cX7_signs 20 = .ok (.iconst 4, 1) := by decide +kernel
theorem dX7_signs_21 : decode cX7_signs 21 = .ok (.iload_n 3, 1) := by decide +kernel
theorem dX7_signs_22 : decode cX7_signs 22 = .ok (.iadd, 1) := by decide +kernel
theorem dX7_signs_23 : decode cX7_signs 23 = .ok (.baload, 1) := by decide +kernel
theorem dX7_signs_24 : decode cX7_signs 24 = .ok (.ifCond .ne 15, 3) := by decide +kernel
theorem dX7_signs_27 : decode cX7_signs 27 = .ok (.aload_n 0, 1) := by decide +kernel
theorem dX7_signs_28 : decode cX7_signs 28 = .ok (.getfield 38, 3) := by decide +kernel
theorem dX7_signs_31 : decode cX7_signs 31 = .ok (.bipush 10, 2) := by decide +kernel
theorem dX7_signs_33 : decode cX7_signs 33 = .ok (.iload_n 3, 1) := by decide +kernel
theorem dX7_signs_34 : decode cX7_signs 34 = .ok (.iadd, 1) := by decide +kernel
theorem dX7_signs_35 : decode cX7_signs 35 = .ok (.baload, 1) := by decide +kernel
theorem dX7_signs_36 : decode cX7_signs 36 = .ok (.ifCond .eq 9, 3) := by decide +kernel
theorem dX7_signs_39 : decode cX7_signs 39 = .ok (.iconst 1, 1) := by decide +kernel
theorem dX7_signs_40 : decode cX7_signs 40 = .ok (.iload_n 3, 1) := by decide +kernel
theorem dX7_signs_41 : decode cX7_signs 41 = .ok (.ishl, 1) := by decide +kernel
theorem dX7_signs_42 : decode cX7_signs 42 = .ok (.goto 4, 3) := by decide +kernel
theorem dX7_signs_45 : decode cX7_signs 45 = .ok (.iconst 0, 1) := by decide +kernel
theorem dX7_signs_46 : decode cX7_signs 46 = .ok (.ior, 1) := by decide +kernel
theorem dX7_signs_47 : decode cX7_signs 47 = .ok (.istore_n 2, 1) := by decide +kernel
theorem dX7_signs_48 : decode cX7_signs 48 = .ok (.iinc 3 1, 3) := by decide +kernel
theorem dX7_signs_51 : decode cX7_signs 51 = .ok (.goto (-42), 3) := by decide +kernel
theorem dX7_signs_54 : decode cX7_signs 54 = .ok (.iload_n 2, 1) := by decide +kernel
theorem dX7_signs_55 : decode cX7_signs 55 = .ok (.ireturn, 1) := by decide +kernel
theorem dX7_part_0 : decode cX7_part 0 = .ok (.aload_n 0, 1) := by decide +kernel
theorem dX7_part_1 : decode cX7_part 1 = .ok (.iload_n 1, 1) := by decide +kernel
theorem dX7_part_2 : decode cX7_part 2 = .ok (.iload_n 2, 1) := by decide +kernel
theorem dX7_part_3 : decode cX7_part 3 = .ok (.invokevirtual 267, 3) := by decide +kernel
theorem dX7_part_6 : decode cX7_part 6 = .ok (.ifCond .ne 5, 3) := by decide +kernel
theorem dX7_part_9 : decode cX7_part 9 = .ok (.iconst (-1), 1) := by decide +kernel
theorem dX7_part_10 : decode cX7_part 10 = .ok (.ireturn, 1) := by decide +kernel
theorem dX7_part_11 : decode cX7_part 11 = .ok (.aload_n 0, 1) := by decide +kernel
theorem dX7_part_12 : decode cX7_part 12 = .ok (.iload_n 1, 1) := by decide +kernel
theorem dX7_part_13 : decode cX7_part 13 = .ok (.iload_n 2, 1) := by decide +kernel
theorem dX7_part_14 : decode cX7_part 14 = .ok (.invokevirtual 165, 3) := by decide +kernel
theorem dX7_part_17 : decode cX7_part 17 = .ok (.istore 4, 2) := by decide +kernel
theorem dX7_part_19 : decode cX7_part 19 = .ok (.iload_n 3, 1) := by decide +kernel
theorem dX7_part_20 : decode cX7_part 20 = .ok (.tableswitch 70 0 3 #[32, 40, 48, 55], 32) := by decide +kernel
theorem dX7_part_52 : decode cX7_part 52 = .ok (.aload_n 0, 1) := by decide +kernel
theorem dX7_part_53 : decode cX7_part 53 = .ok (.getfield 29, 3) := by decide +kernel
theorem dX7_part_56 : decode cX7_part 56 = .ok (.iload 4, 2) := by decide +kernel
theorem dX7_part_58 : decode cX7_part 58 = .ok (.iaload, 1) := by decide +kernel
theorem dX7_part_59 : decode cX7_part 59 = .ok (.ireturn, 1) := by decide +kernel
theorem dX7_part_60 : decode cX7_part 60 = .ok (.aload_n 0, 1) := by decide +kernel
theorem dX7_part_61 : decode cX7_part 61 = .ok (.getfield 32, 3) := by decide +kernel
theorem dX7_part_64 : decode cX7_part 64 = .ok (.iload 4, 2) := by decide +kernel
theorem dX7_part_66 : decode cX7_part 66 = .ok (.iaload, 1) := by decide +kernel
theorem dX7_part_67 : decode cX7_part 67 = .ok (.ireturn, 1) := by decide +kernel
theorem dX7_part_68 : decode cX7_part 68 = .ok (.aload_n 0, 1) := by decide +kernel
theorem dX7_part_69 : decode cX7_part 69 = .ok (.iload 4, 2) := by decide +kernel
theorem dX7_part_71 : decode cX7_part 71 = .ok (.invokevirtual 273, 3) := by decide +kernel
theorem dX7_part_74 : decode cX7_part 74 = .ok (.ireturn, 1) := by decide +kernel
theorem dX7_part_75 : decode cX7_part 75 = .ok (.aload_n 0, 1) := by decide +kernel
theorem dX7_part_76 : decode cX7_part 76 = .ok (.iload 4, 2) := by decide +kernel
theorem dX7_part_78 : decode cX7_part 78 = .ok (.invokevirtual 197, 3) := by decide +kernel
theorem dX7_part_81 : decode cX7_part 81 = .ok (.ifCond .eq 7, 3) := by decide +kernel
theorem dX7_part_84 : decode cX7_part 84 = .ok (.iconst 1, 1) := by decide +kernel
theorem dX7_part_85 : decode cX7_part 85 = .ok (.goto 4, 3) := by decide +kernel
theorem dX7_part_88 : decode cX7_part 88 = .ok (.iconst 0, 1) := by decide +kernel
theorem dX7_part_89 : decode cX7_part 89 = .ok (.ireturn, 1) := by decide +kernel
theorem dX7_part_90 : decode cX7_part 90 = .ok (.bipush (-2), 2) := by decide +kernel
theorem dX7_part_92 : decode cX7_part 92 = .ok (.ireturn, 1) := by decide +kernel
theorem dX7_would_0 : decode cX7_would 0 = .ok (.aload_n 0, 1) := by decide +kernel
theorem dX7_would_1 : decode cX7_would 1 = .ok (.iload_n 1, 1) := by decide +kernel
theorem dX7_would_2 : decode cX7_would 2 = .ok (.invokevirtual 174, 3) := by decide +kernel
theorem dX7_would_5 : decode cX7_would 5 = .ok (.ifCond .ne 5, 3) := by decide +kernel
theorem dX7_would_8 : decode cX7_would 8 = .ok (.iconst (-1), 1) := by decide +kernel
theorem dX7_would_9 : decode cX7_would 9 = .ok (.ireturn, 1) := by decide +kernel
theorem dX7_would_10 : decode cX7_would 10 = .ok (.iload_n 2, 1) := by decide +kernel
theorem dX7_would_11 : decode cX7_would 11 = .ok (.iconst 0, 1) := by decide +kernel
theorem dX7_would_12 : decode cX7_would 12 = .ok (.bipush 63, 2) := by decide +kernel
theorem dX7_would_14 : decode cX7_would 14 = .ok (.invokestatic 70, 3) := by decide +kernel
theorem dX7_would_17 : decode cX7_would 17 = .ok (.ifCond .ne 6, 3) := by decide +kernel
theorem dX7_would_20 : decode cX7_would 20 = .ok (.bipush (-2), 2) := by decide +kernel
theorem dX7_would_22 : decode cX7_would 22 = .ok (.ireturn, 1) := by decide +kernel
theorem dX7_would_23 : decode cX7_would 23 = .ok (.aload_n 0, 1) := by decide +kernel
theorem dX7_would_24 : decode cX7_would 24 = .ok (.getfield 7, 3) := by decide +kernel
theorem dX7_would_27 : decode cX7_would 27 = .ok (.iconst 1, 1) := by decide +kernel
theorem dX7_would_28 : decode cX7_would 28 = .ok (.iaload, 1) := by decide +kernel
theorem dX7_would_29 : decode cX7_would 29 = .ok (.iconst 1, 1) := by decide +kernel
theorem dX7_would_30 : decode cX7_would 30 = .ok (.if_icmp .ne 8, 3) := by decide +kernel
theorem dX7_would_33 : decode cX7_would 33 = .ok (.bipush (-4), 2) := by decide +kernel
theorem dX7_would_35 : decode cX7_would 35 = .ok (.goto 9, 3) := by decide +kernel
theorem dX7_would_38 : decode cX7_would 38 = .ok (.aload_n 0, 1) := by decide +kernel
theorem dX7_would_39 : decode cX7_would 39 = .ok (.iload_n 1, 1) := by decide +kernel
theorem dX7_would_40 : decode cX7_would 40 = .ok (.iload_n 2, 1) := by decide +kernel
theorem dX7_would_41 : decode cX7_would 41 = .ok (.invokevirtual 171, 3) := by decide +kernel
theorem dX7_would_44 : decode cX7_would 44 = .ok (.ireturn, 1) := by decide +kernel
theorem dX7_bears_0 : decode cX7_bears 0 = .ok (.aload_n 0, 1) := by decide +kernel
theorem dX7_bears_1 : decode cX7_bears 1 = .ok (.iload_n 1, 1) := by decide +kernel
theorem dX7_bears_2 : decode cX7_bears 2 = .ok (.invokevirtual 174, 3) := by decide +kernel
theorem dX7_bears_5 : decode cX7_bears 5 = .ok (.ifCond .ne 5, 3) := by decide +kernel
theorem dX7_bears_8 : decode cX7_bears 8 = .ok (.iconst (-1), 1) := by decide +kernel
theorem dX7_bears_9 : decode cX7_bears 9 = .ok (.ireturn, 1) := by decide +kernel
theorem dX7_bears_10 : decode cX7_bears 10 = .ok (.iload_n 2, 1) := by decide +kernel
theorem dX7_bears_11 : decode cX7_bears 11 = .ok (.iconst 0, 1) := by decide +kernel
theorem dX7_bears_12 : decode cX7_bears 12 = .ok (.iconst 3, 1) := by decide +kernel
theorem dX7_bears_13 : decode cX7_bears 13 = .ok (.invokestatic 70, 3) := by decide +kernel
theorem dX7_bears_16 : decode cX7_bears 16 = .ok (.ifCond .ne 6, 3) := by decide +kernel
theorem dX7_bears_19 : decode cX7_bears 19 = .ok (.bipush (-2), 2) := by decide +kernel
theorem dX7_bears_21 : decode cX7_bears 21 = .ok (.ireturn, 1) := by decide +kernel
theorem dX7_bears_22 : decode cX7_bears 22 = .ok (.aload_n 0, 1) := by decide +kernel
theorem dX7_bears_23 : decode cX7_bears 23 = .ok (.getfield 7, 3) := by decide +kernel
theorem dX7_bears_26 : decode cX7_bears 26 = .ok (.iconst 1, 1) := by decide +kernel
theorem dX7_bears_27 : decode cX7_bears 27 = .ok (.iaload, 1) := by decide +kernel
theorem dX7_bears_28 : decode cX7_bears 28 = .ok (.iconst 1, 1) := by decide +kernel
theorem dX7_bears_29 : decode cX7_bears 29 = .ok (.if_icmp .ne 6, 3) := by decide +kernel
theorem dX7_bears_32 : decode cX7_bears 32 = .ok (.bipush (-4), 2) := by decide +kernel
theorem dX7_bears_34 : decode cX7_bears 34 = .ok (.ireturn, 1) := by decide +kernel
theorem dX7_bears_35 : decode cX7_bears 35 = .ok (.iconst 0, 1) := by decide +kernel
theorem dX7_bears_36 : decode cX7_bears 36 = .ok (.istore_n 3, 1) := by decide +kernel
theorem dX7_bears_37 : decode cX7_bears 37 = .ok (.bipush (-5), 2) := by decide +kernel
theorem dX7_bears_39 : decode cX7_bears 39 = .ok (.istore 4, 2) := by decide +kernel
theorem dX7_bears_41 : decode cX7_bears 41 = .ok (.bipush 63, 2) := by decide +kernel
theorem dX7_bears_43 : decode cX7_bears 43 = .ok (.istore 5, 2) := by decide +kernel
theorem dX7_bears_45 : decode cX7_bears 45 = .ok (.iload 5, 2) := by decide +kernel
theorem dX7_bears_47 : decode cX7_bears 47 = .ok (.ifCond .lt 76, 3) := by decide +kernel
theorem dX7_bears_50 : decode cX7_bears 50 = .ok (.aload_n 0, 1) := by decide +kernel
theorem dX7_bears_51 : decode cX7_bears 51 = .ok (.iload_n 1, 1) := by decide +kernel
theorem dX7_bears_52 : decode cX7_bears 52 = .ok (.iload 5, 2) := by decide +kernel
theorem dX7_bears_54 : decode cX7_bears 54 = .ok (.invokevirtual 171, 3) := by decide +kernel
theorem dX7_bears_57 : decode cX7_bears 57 = .ok (.istore 6, 2) := by decide +kernel
theorem dX7_bears_59 : decode cX7_bears 59 = .ok (.iload_n 2, 1) := by decide +kernel
theorem dX7_bears_60 : decode cX7_bears 60 = .ok (.iconst 2, 1) := by decide +kernel
theorem dX7_bears_61 : decode cX7_bears 61 = .ok (.if_icmp .ge 16, 3) := by decide +kernel
theorem dX7_bears_64 : decode cX7_bears 64 = .ok (.iload 6, 2) := by decide +kernel
theorem dX7_bears_66 : decode cX7_bears 66 = .ok (.ifCond .eq 7, 3) := by decide +kernel
theorem dX7_bears_69 : decode cX7_bears 69 = .ok (.iconst 1, 1) := by decide +kernel
theorem dX7_bears_70 : decode cX7_bears 70 = .ok (.goto 18, 3) := by decide +kernel
theorem dX7_bears_73 : decode cX7_bears 73 = .ok (.iconst 0, 1) := by decide +kernel
theorem dX7_bears_74 : decode cX7_bears 74 = .ok (.goto 14, 3) := by decide +kernel
theorem dX7_bears_77 : decode cX7_bears 77 = .ok (.iload 6, 2) := by decide +kernel
theorem dX7_bears_79 : decode cX7_bears 79 = .ok (.iconst 1, 1) := by decide +kernel
theorem dX7_bears_80 : decode cX7_bears 80 = .ok (.if_icmp .ne 7, 3) := by decide +kernel
theorem dX7_bears_83 : decode cX7_bears 83 = .ok (.iconst 1, 1) := by decide +kernel
theorem dX7_bears_84 : decode cX7_bears 84 = .ok (.goto 4, 3) := by decide +kernel
theorem dX7_bears_87 : decode cX7_bears 87 = .ok (.iconst 0, 1) := by decide +kernel
theorem dX7_bears_88 : decode cX7_bears 88 = .ok (.istore 7, 2) := by decide +kernel
theorem dX7_bears_90 : decode cX7_bears 90 = .ok (.iload_n 3, 1) := by decide +kernel
theorem dX7_bears_91 : decode cX7_bears 91 = .ok (.iload 7, 2) := by decide +kernel
theorem dX7_bears_93 : decode cX7_bears 93 = .ok (.ifCond .eq 7, 3) := by decide +kernel
theorem dX7_bears_96 : decode cX7_bears 96 = .ok (.iconst 1, 1) := by decide +kernel
theorem dX7_bears_97 : decode cX7_bears 97 = .ok (.goto 4, 3) := by decide +kernel
theorem dX7_bears_100 : decode cX7_bears 100 = .ok (.iconst 0, 1) := by decide +kernel
theorem dX7_bears_101 : decode cX7_bears 101 = .ok (.iadd, 1) := by decide +kernel
theorem dX7_bears_102 : decode cX7_bears 102 = .ok (.istore_n 3, 1) := by decide +kernel
theorem dX7_bears_103 : decode cX7_bears 103 = .ok (.iload 7, 2) := by decide +kernel
theorem dX7_bears_105 : decode cX7_bears 105 = .ok (.ifCond .eq 8, 3) := by decide +kernel
theorem dX7_bears_108 : decode cX7_bears 108 = .ok (.iload 5, 2) := by decide +kernel
theorem dX7_bears_110 : decode cX7_bears 110 = .ok (.goto 5, 3) := by decide +kernel
theorem dX7_bears_113 : decode cX7_bears 113 = .ok (.iload 4, 2) := by decide +kernel
theorem dX7_bears_115 : decode cX7_bears 115 = .ok (.istore 4, 2) := by decide +kernel
theorem dX7_bears_117 : decode cX7_bears 117 = .ok (.iinc 5 (-1), 3) := by decide +kernel
theorem dX7_bears_120 : decode cX7_bears 120 = .ok (.goto (-75), 3) := by decide +kernel
theorem dX7_bears_123 : decode cX7_bears 123 = .ok (.iload_n 2, 1) := by decide +kernel
theorem dX7_bears_124 : decode cX7_bears 124 = .ok (.iconst 2, 1) := by decide +kernel
theorem dX7_bears_125 : decode cX7_bears 125 = .ok (.irem, 1) := by decide +kernel
theorem dX7_bears_126 : decode cX7_bears 126 = .ok (.ifCond .ne 7, 3) := by decide +kernel
theorem dX7_bears_129 : decode cX7_bears 129 = .ok (.iload_n 3, 1) := by decide +kernel
theorem dX7_bears_130 : decode cX7_bears 130 = .ok (.goto 5, 3) := by decide +kernel
theorem dX7_bears_133 : decode cX7_bears 133 = .ok (.iload 4, 2) := by decide +kernel
theorem dX7_bears_135 : decode cX7_bears 135 = .ok (.ireturn, 1) := by decide +kernel
theorem dX7_isOpen_0 : decode cX7_isOpen 0 = .ok (.aload_n 0, 1) := by decide +kernel
theorem dX7_isOpen_1 : decode cX7_isOpen 1 = .ok (.iload_n 1, 1) := by decide +kernel
theorem dX7_isOpen_2 : decode cX7_isOpen 2 = .ok (.invokevirtual 174, 3) := by decide +kernel
theorem dX7_isOpen_5 : decode cX7_isOpen 5 = .ok (.ifCond .eq 16, 3) := by decide +kernel
theorem dX7_isOpen_8 : decode cX7_isOpen 8 = .ok (.aload_n 0, 1) := by decide +kernel
theorem dX7_isOpen_9 : decode cX7_isOpen 9 = .ok (.iload_n 1, 1) := by decide +kernel
theorem dX7_isOpen_10 : decode cX7_isOpen 10 = .ok (.invokevirtual 162, 3) := by decide +kernel
theorem dX7_isOpen_13 : decode cX7_isOpen 13 = .ok (.iconst 2, 1) := by decide +kernel
theorem dX7_isOpen_14 : decode cX7_isOpen 14 = .ok (.if_icmp .ne 7, 3) := by decide +kernel
theorem dX7_isOpen_17 : decode cX7_isOpen 17 = .ok (.iconst 1, 1) := by decide +kernel
theorem dX7_isOpen_18 : decode cX7_isOpen 18 = .ok (.goto 4, 3) := by decide +kernel
theorem dX7_isOpen_21 : decode cX7_isOpen 21 = .ok (.iconst 0, 1) := by decide +kernel
theorem dX7_isOpen_22 : decode cX7_isOpen 22 = .ok (.ireturn, 1) := by decide +kernel
theorem dX7_open_0 : decode cX7_open 0 = .ok (.iload_n 1, 1) := by decide +kernel
theorem dX7_open_1 : decode cX7_open 1 = .ok (.ifCond .ge 6, 3) := by decide +kernel
theorem dX7_open_4 : decode cX7_open 4 = .ok (.bipush (-2), 2) := by decide +kernel
theorem dX7_open_6 : decode cX7_open 6 = .ok (.ireturn, 1) := by decide +kernel
theorem dX7_open_7 : decode cX7_open 7 = .ok (.iconst 0, 1) := by decide +kernel
theorem dX7_open_8 : decode cX7_open 8 = .ok (.istore_n 2, 1) := by decide +kernel
theorem dX7_open_9 : decode cX7_open 9 = .ok (.iload_n 2, 1) := by decide +kernel
theorem dX7_open_10 : decode cX7_open 10 = .ok (.bipush 8, 2) := by decide +kernel
theorem dX7_open_12 : decode cX7_open 12 = .ok (.if_icmp .ge 28, 3) := by decide +kernel
theorem dX7_open_15 : decode cX7_open 15 = .ok (.aload_n 0, 1) := by decide +kernel
theorem dX7_open_16 : decode cX7_open 16 = .ok (.iload_n 2, 1) := by decide +kernel
theorem dX7_open_17 : decode cX7_open 17 = .ok (.invokevirtual 276, 3) := by decide +kernel
theorem dX7_open_20 : decode cX7_open 20 = .ok (.ifCond .eq 14, 3) := by decide +kernel
theorem dX7_open_23 : decode cX7_open 23 = .ok (.aload_n 0, 1) := by decide +kernel
theorem dX7_open_24 : decode cX7_open 24 = .ok (.getfield 49, 3) := by decide +kernel
theorem dX7_open_27 : decode cX7_open 27 = .ok (.iload_n 2, 1) := by decide +kernel
theorem dX7_open_28 : decode cX7_open 28 = .ok (.aload_n 0, 1) := by decide +kernel
theorem dX7_open_29 : decode cX7_open 29 = .ok (.iload_n 2, 1) := by decide +kernel
theorem dX7_open_30 : decode cX7_open 30 = .ok (.invokevirtual 264, 3) := by decide +kernel
theorem dX7_open_33 : decode cX7_open 33 = .ok (.iastore, 1) := by decide +kernel
theorem dX7_open_34 : decode cX7_open 34 = .ok (.iinc 2 1, 3) := by decide +kernel
theorem dX7_open_37 : decode cX7_open 37 = .ok (.goto (-28), 3) := by decide +kernel
theorem dX7_open_40 : decode cX7_open 40 = .ok (.bipush (-5), 2) := by decide +kernel
theorem dX7_open_42 : decode cX7_open 42 = .ok (.istore_n 2, 1) := by decide +kernel
theorem dX7_open_43 : decode cX7_open 43 = .ok (.iconst 0, 1) := by decide +kernel
theorem dX7_open_44 : decode cX7_open 44 = .ok (.istore_n 3, 1) := by decide +kernel
theorem dX7_open_45 : decode cX7_open 45 = .ok (.iload_n 3, 1) := by decide +kernel
theorem dX7_open_46 : decode cX7_open 46 = .ok (.bipush 8, 2) := by decide +kernel
theorem dX7_open_48 : decode cX7_open 48 = .ok (.if_icmp .ge 113, 3) := by decide +kernel
theorem dX7_open_51 : decode cX7_open 51 = .ok (.iconst 0, 1) := by decide +kernel
theorem dX7_open_52 : decode cX7_open 52 = .ok (.istore 4, 2) := by decide +kernel
theorem dX7_open_54 : decode cX7_open 54 = .ok (.iconst 0, 1) := by decide +kernel
theorem dX7_open_55 : decode cX7_open 55 = .ok (.istore 5, 2) := by decide +kernel
theorem dX7_open_57 : decode cX7_open 57 = .ok (.iload 5, 2) := by decide +kernel
theorem dX7_open_59 : decode cX7_open 59 = .ok (.bipush 8, 2) := by decide +kernel
theorem dX7_open_61 : decode cX7_open 61 = .ok (.if_icmp .ge 74, 3) := by decide +kernel
theorem dX7_open_64 : decode cX7_open 64 = .ok (.aload_n 0, 1) := by decide +kernel
theorem dX7_open_65 : decode cX7_open 65 = .ok (.iload_n 3, 1) := by decide +kernel
theorem dX7_open_66 : decode cX7_open 66 = .ok (.invokevirtual 276, 3) := by decide +kernel
theorem dX7_open_69 : decode cX7_open 69 = .ok (.ifCond .eq 66, 3) := by decide +kernel
theorem dX7_open_72 : decode cX7_open 72 = .ok (.iload 4, 2) := by decide +kernel
theorem dX7_open_74 : decode cX7_open 74 = .ok (.aload_n 0, 1) := by decide +kernel
theorem dX7_open_75 : decode cX7_open 75 = .ok (.iload 5, 2) := by decide +kernel
theorem dX7_open_77 : decode cX7_open 77 = .ok (.invokevirtual 276, 3) := by decide +kernel
theorem dX7_open_80 : decode cX7_open 80 = .ok (.ifCond .eq 45, 3) := by decide +kernel
theorem dX7_open_83 : decode cX7_open 83 = .ok (.aload_n 0, 1) := by decide +kernel
theorem dX7_open_84 : decode cX7_open 84 = .ok (.getfield 49, 3) := by decide +kernel
theorem dX7_open_87 : decode cX7_open 87 = .ok (.iload 5, 2) := by decide +kernel
theorem dX7_open_89 : decode cX7_open 89 = .ok (.iaload, 1) := by decide +kernel
theorem dX7_open_90 : decode cX7_open 90 = .ok (.aload_n 0, 1) := by decide +kernel
theorem dX7_open_91 : decode cX7_open 91 = .ok (.getfield 49, 3) := by decide +kernel
theorem dX7_open_94 : decode cX7_open 94 = .ok (.iload_n 3, 1) := by decide +kernel
theorem dX7_open_95 : decode cX7_open 95 = .ok (.iaload, 1) := by decide +kernel
theorem dX7_open_96 : decode cX7_open 96 = .ok (.if_icmp .gt 25, 3) := by decide +kernel
theorem dX7_open_99 : decode cX7_open 99 = .ok (.aload_n 0, 1) := by decide +kernel
theorem dX7_open_100 : decode cX7_open 100 = .ok (.getfield 49, 3) := by decide +kernel
theorem dX7_open_103 : decode cX7_open 103 = .ok (.iload 5, 2) := by decide +kernel
theorem dX7_open_105 : decode cX7_open 105 = .ok (.iaload, 1) := by decide +kernel
theorem dX7_open_106 : decode cX7_open 106 = .ok (.aload_n 0, 1) := by decide +kernel
theorem dX7_open_107 : decode cX7_open 107 = .ok (.getfield 49, 3) := by decide +kernel
theorem dX7_open_110 : decode cX7_open 110 = .ok (.iload_n 3, 1) := by decide +kernel
theorem dX7_open_111 : decode cX7_open 111 = .ok (.iaload, 1) := by decide +kernel
theorem dX7_open_112 : decode cX7_open 112 = .ok (.if_icmp .ne 13, 3) := by decide +kernel
theorem dX7_open_115 : decode cX7_open 115 = .ok (.iload 5, 2) := by decide +kernel
theorem dX7_open_117 : decode cX7_open 117 = .ok (.iload_n 3, 1) := by decide +kernel
theorem dX7_open_118 : decode cX7_open 118 = .ok (.if_icmp .ge 7, 3) := by decide +kernel
theorem dX7_open_121 : decode cX7_open 121 = .ok (.iconst 1, 1) := by decide +kernel
theorem dX7_open_122 : decode cX7_open 122 = .ok (.goto 4, 3) := by decide +kernel
theorem dX7_open_125 : decode cX7_open 125 = .ok (.iconst 0, 1) := by decide +kernel
theorem dX7_open_126 : decode cX7_open 126 = .ok (.iadd, 1) := by decide +kernel
theorem dX7_open_127 : decode cX7_open 127 = .ok (.istore 4, 2) := by decide +kernel
theorem dX7_open_129 : decode cX7_open 129 = .ok (.iinc 5 1, 3) := by decide +kernel
theorem dX7_open_132 : decode cX7_open 132 = .ok (.goto (-75), 3) := by decide +kernel
theorem dX7_open_135 : decode cX7_open 135 = .ok (.aload_n 0, 1) := by decide +kernel
theorem dX7_open_136 : decode cX7_open 136 = .ok (.iload_n 3, 1) := by decide +kernel
theorem dX7_open_137 : decode cX7_open 137 = .ok (.invokevirtual 276, 3) := by decide +kernel
theorem dX7_open_140 : decode cX7_open 140 = .ok (.ifCond .eq 13, 3) := by decide +kernel
theorem dX7_open_143 : decode cX7_open 143 = .ok (.iload 4, 2) := by decide +kernel
theorem dX7_open_145 : decode cX7_open 145 = .ok (.iload_n 1, 1) := by decide +kernel
theorem dX7_open_146 : decode cX7_open 146 = .ok (.if_icmp .ne 7, 3) := by decide +kernel
theorem dX7_open_149 : decode cX7_open 149 = .ok (.iload_n 3, 1) := by decide +kernel
theorem dX7_open_150 : decode cX7_open 150 = .ok (.goto 4, 3) := by decide +kernel
theorem dX7_open_153 : decode cX7_open 153 = .ok (.iload_n 2, 1) := by decide +kernel
theorem dX7_open_154 : decode cX7_open 154 = .ok (.istore_n 2, 1) := by decide +kernel
theorem dX7_open_155 : decode cX7_open 155 = .ok (.iinc 3 1, 3) := by decide +kernel
theorem dX7_open_158 : decode cX7_open 158 = .ok (.goto (-113), 3) := by decide +kernel
theorem dX7_open_161 : decode cX7_open 161 = .ok (.iload_n 2, 1) := by decide +kernel
theorem dX7_open_162 : decode cX7_open 162 = .ok (.ireturn, 1) := by decide +kernel
theorem dX7_at_0 : decode cX7_at 0 = .ok (.iload_n 1, 1) := by decide +kernel
theorem dX7_at_1 : decode cX7_at 1 = .ok (.ifCond .ge 8, 3) := by decide +kernel
theorem dX7_at_4 : decode cX7_at 4 = .ok (.bipush (-2), 2) := by decide +kernel
theorem dX7_at_6 : decode cX7_at 6 = .ok (.goto 26, 3) := by decide +kernel
theorem dX7_at_9 : decode cX7_at 9 = .ok (.iload_n 1, 1) := by decide +kernel
theorem dX7_at_10 : decode cX7_at 10 = .ok (.aload_n 0, 1) := by decide +kernel
theorem dX7_at_11 : decode cX7_at 11 = .ok (.getfield 7, 3) := by decide +kernel
theorem dX7_at_14 : decode cX7_at 14 = .ok (.iconst 0, 1) := by decide +kernel
theorem dX7_at_15 : decode cX7_at 15 = .ok (.iaload, 1) := by decide +kernel
theorem dX7_at_16 : decode cX7_at 16 = .ok (.if_icmp .ge 14, 3) := by decide +kernel
theorem dX7_at_19 : decode cX7_at 19 = .ok (.aload_n 0, 1) := by decide +kernel
theorem dX7_at_20 : decode cX7_at 20 = .ok (.getfield 7, 3) := by decide +kernel
theorem dX7_at_23 : decode cX7_at 23 = .ok (.iconst 4, 1) := by decide +kernel
theorem dX7_at_24 : decode cX7_at 24 = .ok (.iload_n 1, 1) := by decide +kernel
theorem dX7_at_25 : decode cX7_at 25 = .ok (.iadd, 1) := by decide +kernel
theorem dX7_at_26 : decode cX7_at 26 = .ok (.iaload, 1) := by decide +kernel
theorem dX7_at_27 : decode cX7_at 27 = .ok (.goto 5, 3) := by decide +kernel
theorem dX7_at_30 : decode cX7_at 30 = .ok (.bipush (-5), 2) := by decide +kernel
theorem dX7_at_32 : decode cX7_at 32 = .ok (.ireturn, 1) := by decide +kernel
theorem dX7_wishesThat_0 : decode cX7_wishesThat 0 = .ok (.iconst 0, 1) := by decide +kernel
theorem dX7_wishesThat_1 : decode cX7_wishesThat 1 = .ok (.istore_n 2, 1) := by decide +kernel
theorem dX7_wishesThat_2 : decode cX7_wishesThat 2 = .ok (.iconst 0, 1) := by decide +kernel
theorem dX7_wishesThat_3 : decode cX7_wishesThat 3 = .ok (.istore_n 3, 1) := by decide +kernel
theorem dX7_wishesThat_4 : decode cX7_wishesThat 4 = .ok (.iload_n 3, 1) := by decide +kernel
theorem dX7_wishesThat_5 : decode cX7_wishesThat 5 = .ok (.bipush 8, 2) := by decide +kernel
theorem dX7_wishesThat_7 : decode cX7_wishesThat 7 = .ok (.if_icmp .ge 34, 3) := by decide +kernel
theorem dX7_wishesThat_10 : decode cX7_wishesThat 10 = .ok (.iload_n 2, 1) := by decide +kernel
theorem dX7_wishesThat_11 : decode cX7_wishesThat 11 = .ok (.aload_n 0, 1) := by decide +kernel
theorem dX7_wishesThat_12 : decode cX7_wishesThat 12 = .ok (.iload_n 3, 1) := by decide +kernel
theorem dX7_wishesThat_13 : decode cX7_wishesThat 13 = .ok (.invokevirtual 174, 3) := by decide +kernel
theorem dX7_wishesThat_16 : decode cX7_wishesThat 16 = .ok (.ifCond .eq 16, 3) := by decide +kernel
theorem dX7_wishesThat_19 : decode cX7_wishesThat 19 = .ok (.aload_n 0, 1) := by decide +kernel
theorem dX7_wishesThat_20 : decode cX7_wishesThat 20 = .ok (.iload_n 3, 1) := by decide +kernel
theorem dX7_wishesThat_21 : decode cX7_wishesThat 21 = .ok (.invokevirtual 162, 3) := by decide +kernel
theorem dX7_wishesThat_24 : decode cX7_wishesThat 24 = .ok (.iload_n 1, 1) := by decide +kernel
theorem dX7_wishesThat_25 : decode cX7_wishesThat 25 = .ok (.if_icmp .ne 7, 3) := by decide +kernel
theorem dX7_wishesThat_28 : decode cX7_wishesThat 28 = .ok (.iconst 1, 1) := by decide +kernel
theorem dX7_wishesThat_29 : decode cX7_wishesThat 29 = .ok (.goto 4, 3) := by decide +kernel
theorem dX7_wishesThat_32 : decode cX7_wishesThat 32 = .ok (.iconst 0, 1) := by decide +kernel
theorem dX7_wishesThat_33 : decode cX7_wishesThat 33 = .ok (.iadd, 1) := by decide +kernel
theorem dX7_wishesThat_34 : decode cX7_wishesThat 34 = .ok (.istore_n 2, 1) := by decide +kernel
theorem dX7_wishesThat_35 : decode cX7_wishesThat 35 = .ok (.iinc 3 1, 3) := by decide +kernel
theorem dX7_wishesThat_38 : decode cX7_wishesThat 38 = .ok (.goto (-34), 3) := by decide +kernel
theorem dX7_wishesThat_41 : decode cX7_wishesThat 41 = .ok (.iload_n 2, 1) := by decide +kernel
theorem dX7_wishesThat_42 : decode cX7_wishesThat 42 = .ok (.ireturn, 1) := by decide +kernel
theorem dX7_count_0 : decode cX7_count 0 = .ok (.iload_n 1, 1) := by decide +kernel
theorem dX7_count_1 : decode cX7_count 1 = .ok (.tableswitch 105 0 8 #[51, 58, 65, 70, 77, 83, 89, 95, 100], 51) := by decide +kernel
theorem dX7_count_52 : decode cX7_count 52 = .ok (.aload_n 0, 1) := by decide +kernel
theorem dX7_count_53 : decode cX7_count 53 = .ok (.getfield 7, 3) := by decide +kernel
theorem dX7_count_56 : decode cX7_count 56 = .ok (.iconst 0, 1) := by decide +kernel
theorem dX7_count_57 : decode cX7_count 57 = .ok (.iaload, 1) := by decide +kernel
theorem dX7_count_58 : decode cX7_count 58 = .ok (.ireturn, 1) := by decide +kernel
theorem dX7_count_59 : decode cX7_count 59 = .ok (.aload_n 0, 1) := by decide +kernel
theorem dX7_count_60 : decode cX7_count 60 = .ok (.getfield 7, 3) := by decide +kernel
theorem dX7_count_63 : decode cX7_count 63 = .ok (.iconst 1, 1) := by decide +kernel
theorem dX7_count_64 : decode cX7_count 64 = .ok (.iaload, 1) := by decide +kernel
theorem dX7_count_65 : decode cX7_count 65 = .ok (.ireturn, 1) := by decide +kernel
theorem dX7_count_66 : decode cX7_count 66 = .ok (.aload_n 0, 1) := by decide +kernel
theorem dX7_count_67 : decode cX7_count 67 = .ok (.invokevirtual 255, 3) := by decide +kernel
theorem dX7_count_70 : decode cX7_count 70 = .ok (.ireturn, 1) := by decide +kernel
theorem dX7_count_71 : decode cX7_count 71 = .ok (.aload_n 0, 1) := by decide +kernel
theorem dX7_count_72 : decode cX7_count 72 = .ok (.getfield 7, 3) := by decide +kernel
theorem dX7_count_75 : decode cX7_count 75 = .ok (.iconst 2, 1) := by decide +kernel
theorem dX7_count_76 : decode cX7_count 76 = .ok (.iaload, 1) := by decide +kernel
theorem dX7_count_77 : decode cX7_count 77 = .ok (.ireturn, 1) := by decide +kernel
theorem dX7_count_78 : decode cX7_count 78 = .ok (.aload_n 0, 1) := by decide +kernel
theorem dX7_count_79 : decode cX7_count 79 = .ok (.iconst 2, 1) := by decide +kernel
theorem dX7_count_80 : decode cX7_count 80 = .ok (.invokevirtual 279, 3) := by decide +kernel
theorem dX7_count_83 : decode cX7_count 83 = .ok (.ireturn, 1) := by decide +kernel
theorem dX7_count_84 : decode cX7_count 84 = .ok (.aload_n 0, 1) := by decide +kernel
theorem dX7_count_85 : decode cX7_count 85 = .ok (.iconst 0, 1) := by decide +kernel
theorem dX7_count_86 : decode cX7_count 86 = .ok (.invokevirtual 279, 3) := by decide +kernel
theorem dX7_count_89 : decode cX7_count 89 = .ok (.ireturn, 1) := by decide +kernel
theorem dX7_count_90 : decode cX7_count 90 = .ok (.aload_n 0, 1) := by decide +kernel
theorem dX7_count_91 : decode cX7_count 91 = .ok (.iconst 1, 1) := by decide +kernel
theorem dX7_count_92 : decode cX7_count 92 = .ok (.invokevirtual 279, 3) := by decide +kernel
theorem dX7_count_95 : decode cX7_count 95 = .ok (.ireturn, 1) := by decide +kernel
theorem dX7_count_96 : decode cX7_count 96 = .ok (.aload_n 0, 1) := by decide +kernel
theorem dX7_count_97 : decode cX7_count 97 = .ok (.getfield 65, 3) := by decide +kernel
theorem dX7_count_100 : decode cX7_count 100 = .ok (.ireturn, 1) := by decide +kernel
theorem dX7_count_101 : decode cX7_count 101 = .ok (.aload_n 0, 1) := by decide +kernel
theorem dX7_count_102 : decode cX7_count 102 = .ok (.getfield 200, 3) := by decide +kernel
theorem dX7_count_105 : decode cX7_count 105 = .ok (.ireturn, 1) := by decide +kernel
theorem dX7_count_106 : decode cX7_count 106 = .ok (.bipush (-2), 2) := by decide +kernel
theorem dX7_count_108 : decode cX7_count 108 = .ok (.ireturn, 1) := by decide +kernel
end
section
/-! MEMORY: the scalars of all cells; a reference is the number of a cell. The functional programs (04) run over it. -/
abbrev Mem : Type := Nat → Nat → Int32
abbrev Rv : Type := Int32 × Mem
def mwr (M : Mem) (c k : Nat) (v : Int32) : Mem := fun a => if a = c then upd (M c) k v else M a
def mrd (M : Mem) (c n : Nat) (i : Int32) : Option Int32 := if i < 0 ∨ n ≤ i.toNatClampNeg then none else some (M c i.toNatClampNeg)
def mst (M : Mem) (c n : Nat) (i v : Int32) : Option Mem := if i < 0 ∨ n ≤ i.toNatClampNeg then none else some (mwr M c i.toNatClampNeg v)
def nz (v : Int32) : Int32 := vp_nar .boolean v
def nc (v : Int32) : Int32 := vp_nar .char v
def mpi (M : Mem) (c k : Nat) (v : Int32) : Option Mem := some (mwr M c k v)
def mpz (M : Mem) (c k : Nat) (v : Int32) : Option Mem := if v = 0 ∨ v = 1 then some (mwr M c k v) else none
def mrs (f : Nat → Int32) (n : Nat) (i : Int32) : Option Int32 := if i < 0 ∨ n ≤ i.toNatClampNeg then none else some (f i.toNatClampNeg)
def isSb (c : Nat) : Bool := Nat.ble 29 c && Nat.blt c 218 && Nat.beq ((c - 29) % 27) 0
def isWb (c : Nat) : Bool := Nat.ble 29 c && Nat.blt c 218 && Nat.ble 3 ((c - 29) % 27) && Nat.beq (((c - 29) % 27) % 3) 0
def mlS (v : Int32) : Option Nat := if isSb v.toNatClampNeg = true then some v.toNatClampNeg else none
def mlW (c : Nat) (w : Int32) : Option Nat := if w < 0 ∨ 8 ≤ w.toNatClampNeg then none else some (c + 3 + 3 * w.toNatClampNeg)
def maW (r : Int32) : Option Nat := if isWb r.toNatClampNeg = true then some r.toNatClampNeg else none
def mcp (M : Mem) (a na b nb : Nat) (sp dp n : Int32) : Option Mem := if sp < 0 ∨ dp < 0 ∨ n < 0 ∨ na < sp.toNatClampNeg + n.toNatClampNeg ∨ nb < dp.toNatClampNeg + n.toNatClampNeg then none else some (fun c => if c = b then va_cpy (M a) (M b) sp.toNatClampNeg dp.toNatClampNeg n.toNatClampNeg else M c)
def mrz (v : Int32) (M : Mem) : Option Rv := if v = 0 ∨ v = 1 then some (v, M) else none
def mi2c (x : Int32) : Int32 := (x.toUInt32 % 65536).toInt32
def mushr (x y : Int32) : Int32 := (x.toUInt32 >>> (y.toUInt32 &&& Int32.toUInt32 31)).toInt32
def fuelN : Nat := 1000000
def llt (j : Nat) : Int32 := ([48, 49, 62, 46, 97, 98, 99, 100, 101, 102, 97, 98, 99, 100, 101, 102] : List Int32).getD j 0
def sepf (j : Nat) : Int32 := ([32, 32, 32, 32, 32, 32, 32, 32, 32, 32, 32, 32, 32, 32, 32, 32, 32, 32, 85, 82, 38, 124] : List Int32).getD j 0
/-! THE WORLD: 235 cells at the addresses ad -/
def NC : Nat := 235
def wl (ad : Nat → Nat) (E : Nat → va_E) : va_W := (List.range NC).map (fun c => (ad c, E c))
theorem wl_at {ad : Nat → Nat} {E : Nat → va_E} {c : Nat} (h : c < NC) : (wl ad E)[c]? = some (ad c, E c) := by
  unfold wl
  rw [List.getElem?_map, List.getElem?_range h]
  rfl
theorem wl_get {ad : Nat → Nat} {E : Nat → va_E} {k : Nat} {q : Nat × va_E} (h : (wl ad E)[k]? = some q) : k < NC ∧ q = (ad k, E k) := by
  have hk : k < NC := by
    have h1 := (List.getElem?_eq_some_iff.mp h).1
    unfold wl at h1
    rw [List.length_map, List.length_range] at h1
    exact h1
  rw [wl_at hk] at h
  exact ⟨hk, (Option.some.inj h).symm⟩
theorem wl_set {ad : Nat → Nat} {E E' : Nat → va_E} {c : Nat} {e : va_E} (he : E' c = e) (ho : ∀ k, k ≠ c → E' k = E k) : (wl ad E).set c (ad c, e) = wl ad E' := by
  apply List.ext_getElem?
  intro k
  by_cases hk : k < NC
  · rw [wl_at hk]
    by_cases hc : k = c
    · subst hc
      rw [List.getElem?_set_self (by unfold wl; rw [List.length_map, List.length_range]; exact hk), he]
    · rw [List.getElem?_set_ne (fun q => hc q.symm), wl_at hk, ho k hc]
  · rw [List.getElem?_eq_none (by unfold wl; rw [List.length_set, List.length_map, List.length_range]; omega), List.getElem?_eq_none (by unfold wl; rw [List.length_map, List.length_range]; omega)]
abbrev CT : Type := Program × Env × State × MethodId × Array Value × List Frame × Method × Code
abbrev GL : Type := va_G × (Nat → ClassId) × (Nat → Prop) × Nat × Nat
def tyl (tc : Nat → ClassId) : List (ClassId × FieldType) := [(tc 0, .int), (tc 1, .boolean), (tc 2, .char), (tc 3, .object RX4), (tc 4, .object RX5)]
def AdOK (G : GL) (ad : Nat → Nat) : Prop := (∀ i j, i < NC → j < NC → ad i = ad j → i = j) ∧ ∀ i, i < NC → G.2.2.1 (ad i)
theorem AdOK.D {G : GL} {ad : Nat → Nat} (h : AdOK G ad) (E : Nat → va_E) : va_D G.2.2.1 (wl ad E) := by
  refine ⟨fun i j p q hi hj hpq => ?_, fun k q hk => ?_⟩
  · obtain ⟨h1, rfl⟩ := wl_get hi
    obtain ⟨h2, rfl⟩ := wl_get hj
    exact h.1 i j h1 h2 hpq
  · obtain ⟨h1, rfl⟩ := wl_get hk
    exact h.2 k h1
/-! WORDS -/
def BIG : List Cond := lw_tbl.filter goodWord
theorem mem_big (i : Nat) {w : Cond} (h : lw_tbl[i]? = some w) (hg : goodWord w = true) : w ∈ BIG := List.mem_filter.mpr ⟨List.mem_of_getElem? h, hg⟩
theorem sub_big (ws : List Cond) (ps : List Nat) (hp : ws = ps.filterMap (fun i => lw_tbl[i]?)) (h : ws.all goodWord = true) : ∀ w ∈ ws, w ∈ BIG := by
  intro w hw
  have h1 := List.all_eq_true.mp h w hw
  rw [hp] at hw
  obtain ⟨i, -, hi⟩ := List.mem_filterMap.mp hw
  exact List.mem_filter.mpr ⟨List.mem_of_getElem? hi, h1⟩
theorem BIG_tbl {w : Cond} (h : w ∈ BIG) : w ∈ lw_tbl := (List.mem_filter.mp h).1
theorem good_BIG (w0 : Cond) : GoodIn (w0 :: BIG) BIG := fun w h => ⟨List.mem_cons_of_mem _ h, good_of_word (List.mem_filter.mp h).2⟩
theorem good_code {w1 : Cond} (h1 : w1 ∈ BIG) : GoodIn BIG (w1 :: BIG) := fun w h => by
  rcases List.mem_cons.mp h with rfl | h
  · exact ⟨h1, good_of_word (List.mem_filter.mp h1).2⟩
  · exact ⟨h, good_of_word (List.mem_filter.mp h).2⟩

def NWf : List (String × Nat × String × String × String × String) := [("TimeWishes$Forms", 51, "TimeWishes", "LEAF_LETTERS", "[C", "TimeWishes"), ("TimeWishes$Changes", 35, "TimeWishes$Forms", "kind", "[I", "TimeWishes"), ("TimeWishes$Scribe", 49, "TimeWishes$Forms", "kind", "[I", "TimeWishes"), ("TimeWishes", 227, "TimeWishes$Forms", "kind", "[I", "TimeWishes"), ("TimeWishes$Changes", 40, "TimeWishes$Forms", "number", "[I", "TimeWishes"), ("TimeWishes$Scribe", 46, "TimeWishes$Forms", "number", "[I", "TimeWishes"), ("TimeWishes", 230, "TimeWishes$Forms", "number", "[I", "TimeWishes"), ("TimeWishes$Scribe", 43, "TimeWishes$Forms", "size", "[I", "TimeWishes"), ("TimeWishes", 220, "TimeWishes$Forms", "size", "[I", "TimeWishes"), ("TimeWishes", 191, "TimeWishes$Forms", "signs", "[I", "TimeWishes"), ("TimeWishes", 197, "TimeWishes$Forms", "trueAtEnd", "[Z", "TimeWishes"), ("TimeWishes", 262, "TimeWishes$Forms", "top", "I", "TimeWishes"), ("TimeWishes", 184, "TimeWishes$Scribe", "letters", "[C", "TimeWishes"), ("TimeWishes", 154, "TimeWishes$Reader", "length", "I", "TimeWishes"), ("TimeWishes", 84, "TimeWishes$Wish", "there", "Z", "TimeWishes"), ("TimeWishes$State", 43, "TimeWishes$Wish", "there", "Z", "TimeWishes"), ("TimeWishes", 93, "TimeWishes$Wish", "verdict", "I", "TimeWishes"), ("TimeWishes$State", 46, "TimeWishes$Wish", "verdict", "I", "TimeWishes"), ("TimeWishes", 163, "TimeWishes$Wish", "parts", "I", "TimeWishes"), ("TimeWishes", 169, "TimeWishes$Wish", "decidedAt", "I", "TimeWishes"), ("TimeWishes", 104, "TimeWishes$Wish", "blame", "I", "TimeWishes"), ("TimeWishes", 178, "TimeWishes$Wish", "cameAt", "I", "TimeWishes"), ("TimeWishes$Scribe", 29, "TimeWishes$Wish", "sizes", "[I", "TimeWishes"), ("TimeWishes", 188, "TimeWishes$Wish", "sizes", "[I", "TimeWishes"), ("TimeWishes$Scribe", 34, "TimeWishes$Wish", "codes", "[I", "TimeWishes"), ("TimeWishes", 65, "TimeWishes$State", "ended", "Z", "TimeWishes"), ("TimeWishes", 69, "TimeWishes$State", "events", "I", "TimeWishes"), ("TimeWishes", 77, "TimeWishes$State", "wishesSoFar", "I", "TimeWishes"), ("TimeWishes", 107, "TimeWishes$State", "sets", "[I", "TimeWishes"), ("TimeWishes", 80, "TimeWishes$State", "wishes", "[LTimeWishes$Wish;", "TimeWishes"), ("TimeWishes$Forms", 71, "TimeWishes", "SEPARATORS", "[C", "TimeWishes"), ("TimeWishes$Scribe", 77, "TimeWishes", "LEAF_LETTERS", "[C", "TimeWishes"), ("TimeWishes$Scribe", 74, "TimeWishes", "SEPARATORS", "[C", "TimeWishes")]
def NWm : List (String × Nat × MethodName × String) := [("TimeWishes", 11, ⟨"TimeWishes$Forms", "<init>", "()V"⟩, "TimeWishes"), ("TimeWishes", 18, ⟨"TimeWishes$Changes", "<init>", "(LTimeWishes$Forms;)V"⟩, "TimeWishes"), ("TimeWishes", 27, ⟨"TimeWishes$Scribe", "<init>", "(LTimeWishes$Forms;)V"⟩, "TimeWishes"), ("TimeWishes", 34, ⟨"TimeWishes$Reader", "<init>", "(LTimeWishes$Forms;LTimeWishes$Changes;)V"⟩, "TimeWishes"), ("TimeWishes", 54, ⟨"TimeWishes$State", "<init>", "()V"⟩, "TimeWishes"), ("TimeWishes$State", 21, ⟨"TimeWishes$Wish", "<init>", "()V"⟩, "TimeWishes"), ("TimeWishes", 73, ⟨"TimeWishes$State", "copyFrom", "(LTimeWishes$State;)V"⟩, "TimeWishes"), ("TimeWishes$State", 39, ⟨"TimeWishes$Wish", "copyFrom", "(LTimeWishes$Wish;)V"⟩, "TimeWishes"), ("TimeWishes", 124, ⟨"TimeWishes$Forms", "release", "(I)V"⟩, "TimeWishes"), ("TimeWishes", 240, ⟨"TimeWishes$Scribe", "load", "(LTimeWishes$Wish;I)I"⟩, "TimeWishes"), ("TimeWishes$Scribe", 37, ⟨"TimeWishes$Forms", "make", "(I[III)I"⟩, "TimeWishes"), ("TimeWishes", 216, ⟨"TimeWishes$Changes", "behind", "(II)I"⟩, "TimeWishes"), ("TimeWishes$Changes", 43, ⟨"TimeWishes$Forms", "kid", "(II)I"⟩, "TimeWishes"), ("TimeWishes$Changes", 47, ⟨"TimeWishes$Forms", "order", "(II)I"⟩, "TimeWishes"), ("TimeWishes$Changes", 60, ⟨"TimeWishes$Forms", "make", "(I[III)I"⟩, "TimeWishes"), ("TimeWishes", 223, ⟨"TimeWishes$Scribe", "save", "(ILTimeWishes$Wish;I)V"⟩, "TimeWishes"), ("TimeWishes$Scribe", 52, ⟨"TimeWishes$Forms", "kid", "(II)I"⟩, "TimeWishes"), ("TimeWishes", 96, ⟨"TimeWishes$Wish", "judge", "(I)Z"⟩, "TimeWishes"), ("TimeWishes", 117, ⟨"TimeWishes$Wish", "verdictOfParts", "()I"⟩, "TimeWishes"), ("TimeWishes", 121, ⟨"TimeWishes$Reader", "findFault", "()I"⟩, "TimeWishes"), ("TimeWishes", 128, ⟨"TimeWishes$Reader", "read", "()I"⟩, "TimeWishes"), ("TimeWishes$Reader", 71, ⟨"TimeWishes$Changes", "opposite", "(I)I"⟩, "TimeWishes"), ("TimeWishes$Reader", 77, ⟨"TimeWishes$Changes", "make", "(III)I"⟩, "TimeWishes"), ("TimeWishes$Reader", 84, ⟨"TimeWishes$Changes", "two", "(III)I"⟩, "TimeWishes"), ("TimeWishes", 233, ⟨"TimeWishes$Forms", "kid", "(II)I"⟩, "TimeWishes"), ("TimeWishes", 236, ⟨"TimeWishes$Wish", "come", "(II)V"⟩, "TimeWishes"), ("TimeWishes", 135, ⟨"TimeWishes$State", "find", "(I)LTimeWishes$Wish;"⟩, "TimeWishes"), ("TimeWishes", 243, ⟨"TimeWishes$Changes", "begin", "(I)V"⟩, "TimeWishes"), ("TimeWishes", 246, ⟨"TimeWishes$Changes", "put", "(I)V"⟩, "TimeWishes"), ("TimeWishes", 249, ⟨"TimeWishes$Changes", "done", "()I"⟩, "TimeWishes"), ("TimeWishes", 143, ⟨"TimeWishes$Changes", "two", "(III)I"⟩, "TimeWishes"), ("TimeWishes", 147, ⟨"TimeWishes$State", "howManyThere", "()I"⟩, "TimeWishes"), ("TimeWishes", 150, ⟨"TimeWishes$Reader", "append", "(C)Z"⟩, "TimeWishes"), ("TimeWishes", 166, ⟨"TimeWishes$Wish", "partsThatAre", "(I)I"⟩, "TimeWishes"), ("TimeWishes", 175, ⟨"TimeWishes$Wish", "sizeOfParts", "()I"⟩, "TimeWishes"), ("TimeWishes", 181, ⟨"TimeWishes$Scribe", "spell", "(LTimeWishes$Wish;I)I"⟩, "TimeWishes"), ("TimeWishes", 207, ⟨"TimeWishes$State", "isOpen", "(I)Z"⟩, "TimeWishes"), ("TimeWishes", 210, ⟨"TimeWishes$State", "rankOfOpen", "(I)I"⟩, "TimeWishes"), ("TimeWishes$State", 49, ⟨"TimeWishes$Wish", "sizeOfParts", "()I"⟩, "TimeWishes"), ("TimeWishes", 213, ⟨"TimeWishes$State", "howMany", "(I)I"⟩, "TimeWishes")]
def Nst (U : State) : Prop := (∀ q ∈ NWf, va_Nw (.fieldLinkNest q.1 q.2.1 q.2.2.1 q.2.2.2.1 q.2.2.2.2.1 q.2.2.2.2.2) U) ∧ ∀ q ∈ NWm, va_Nw (.methodLinkNest q.1 q.2.1 q.2.2.1 q.2.2.2) U
theorem Nst.warm {s U : State} (hW : s.WarmedH U.vm) (h : Nst s) : Nst U := ⟨fun q hq => (h.1 q hq).warmF hW, fun q hq => (h.2 q hq).warmM hW⟩
theorem Nst.same {u U : State} (hv : u.vm = U.vm) (h : Nst u) : Nst U := ⟨fun q hq => va_Nw.same rfl hv (h.1 q hq), fun q hq => va_Nw.same rfl hv (h.2 q hq)⟩
def Stt (G : GL) (U : State) (H : Heap) : Prop := (va_Z RX6 "LEAF_LETTERS" "[C" (.ref G.2.2.2.1) G.2.2.1 U H ∧ va_T .char G.2.2.2.1 16 (fun j => .int (llt j)) G.2.2.1 U H) ∧ va_Z RX6 "SEPARATORS" "[C" (.ref G.2.2.2.2) G.2.2.1 U H ∧ va_T .char G.2.2.2.2 22 (fun j => .int (sepf j)) G.2.2.1 U H
theorem Stt.kept {G : GL} {U : State} {H H1 : Heap} (h : Stt G U H) (hq : ∀ a : Nat, a < H.size → ¬ G.2.2.1 a → H1[a]? = H[a]?) : Stt G U H1 := ⟨⟨h.1.1.kept hq, h.1.2.kept hq⟩, h.2.1.kept hq, h.2.2.kept hq⟩
theorem Stt.moved {G : GL} {u U : State} {H : Heap} (hvm : u.vm.Alike U.vm) (h : Stt G u H) : Stt G U H := ⟨⟨h.1.1.moved hvm, h.1.2.moved hvm⟩, h.2.1.moved hvm, h.2.2.moved hvm⟩
/-- what holds of the tables at a method's start -/
def Tb (G : GL) (U : State) (H : Heap) : Prop := va_K G.1 vwCl (tyl G.2.1) U ∧ Nst U ∧ Stt G U H
def Pw (G : GL) (ad : Nat → Nat) (E : Mem → Nat → va_E) (M : Mem) (U : State) : Prop := va_P G.1 vwCl (wl ad (E M)) U.heap ∧ Tb G U U.heap
theorem Pw.blind {G : GL} {ad : Nat → Nat} {E : Mem → Nat → va_E} {M : Mem} (vs : List Value) : FrameBlind (va_Pc vs (Pw G ad E M)) := by
  intro a U g mk q
  obtain ⟨q0, qP, qK, qN, qS⟩ := q
  exact ⟨q0, qP, va_K.moved (u := U) (U := U.calling g mk a) (Vm.Alike.refl U.vm) qK, Nst.same (u := U) (U := U.calling g mk a) rfl qN, Stt.moved (u := U) (U := U.calling g mk a) (Vm.Alike.refl U.vm) qS⟩
/-! LOCALS -/
def lvh (ls : Array Slot) (nL : Nat) (L : List (Option Value)) : Prop := ls.size = nL ∧ lv_wf ls ∧ ∀ (i : Nat) (v : Value), L[i]? = some (some v) → v.category = 1 ∧ ls[i]? = some (.val v)
def lprs (L : List (Option Value)) : List (Nat × Value) := (List.range L.length).filterMap (fun j => (L[j]?.join).map (fun v => (j, v)))
theorem mem_lprs {L : List (Option Value)} {i : Nat} {v : Value} : (i, v) ∈ lprs L ↔ L[i]? = some (some v) := by
  unfold lprs
  rw [List.mem_filterMap]
  constructor
  · rintro ⟨j, -, hj⟩
    cases h : L[j]? with
    | none => rw [h] at hj; cases hj
    | some w =>
      cases w with
      | none => rw [h] at hj; cases hj
      | some w =>
        rw [h] at hj
        cases hj
        exact h
  · intro h
    refine ⟨i, List.mem_range.mpr (List.getElem?_eq_some_iff.mp h).1, ?_⟩
    rw [h]
    rfl
theorem lvh.has {ls : Array Slot} {nL : Nat} {L : List (Option Value)} (h : lvh ls nL L) : lv_has ls nL (lprs L) := ⟨h.1, h.2.1, fun q hq => (h.2.2 q.1 q.2 (mem_lprs.mp hq)).2⟩
theorem lvh.set {ls ls' : Array Slot} {nL i : Nat} {L L' : List (Option Value)} {v : Value} (h : lvh ls nL L) (hv : v.category = 1) (hL : L.set i (some v) = L') (h' : lv_has ls' nL ((i, v) :: (lprs L).filter (fun q => !(q.1 == i) && !(q.1 + 1 == i && q.2.category == 2)))) : lvh ls' nL L' := by
  subst hL
  refine ⟨h'.1, h'.2.1, fun j w hj => ?_⟩
  by_cases hji : i = j
  · subst hji
    have hl : i < L.length := by
      have := (List.getElem?_eq_some_iff.mp hj).1
      rwa [List.length_set] at this
    rw [List.getElem?_set_self hl] at hj
    cases hj
    exact ⟨hv, h'.2.2 (i, v) List.mem_cons_self⟩
  · rw [List.getElem?_set_ne hji] at hj
    obtain ⟨hc, -⟩ := h.2.2 j w hj
    refine ⟨hc, h'.2.2 (j, w) (List.mem_cons_of_mem _ (List.mem_filter.mpr ⟨mem_lprs.mpr hj, ?_⟩))⟩
    have hc2 : (w.category == 2) = false := by rw [hc]; rfl
    simp [hc2, Ne.symm hji]
theorem lv_args1 : ∀ (vs : List Value) (k : Nat), (∀ v ∈ vs, v.category = 1) → ∀ (i : Nat) (v : Value), vs[i]? = some v → (k + i, v) ∈ lv_args k vs := by
  intro vs
  induction vs with
  | nil => intro k _ i v h; simp at h
  | cons a l ih =>
    intro k hc i v h
    have ha : a.category = 1 := hc a List.mem_cons_self
    have hne : ¬ a.category = 2 := by omega
    unfold lv_args
    rw [if_neg hne]
    cases i with
    | zero => simp at h; subst h; exact List.mem_cons_self
    | succ i =>
      simp at h
      have := ih (k + 1) (fun v hv => hc v (List.mem_cons_of_mem _ hv)) i v h
      rw [show k + (i + 1) = k + 1 + i by omega]
      exact List.mem_cons_of_mem _ this
theorem lvh_entry {ls : Array Slot} {nL : Nat} {vs : List Value} {L : List (Option Value)} (h : lv_has ls nL (lv_args 0 vs)) (hc : ∀ v ∈ vs, v.category = 1) (hL : ∀ (i : Nat) (v : Value), L[i]? = some (some v) → vs[i]? = some v) : lvh ls nL L := by
  refine ⟨h.1, h.2.1, fun i v hi => ?_⟩
  have h1 := hL i v hi
  refine ⟨hc v (List.mem_of_getElem? h1), ?_⟩
  have h2 := lv_args1 vs 0 hc i v h1
  rw [Nat.zero_add] at h2
  exact h.2.2 (i, v) h2
/-! THE ROWS: KF o L pc stk M: if the program answers o = some r from here, the machine at pc comes to r's end -/
def Cx (l : Launch) (R : Room) (cc : ByteArray) (own : String) (nL : Nat) (ret : Option FieldType) (G : GL) (ad : Nat → Nat) (X : CT) : Prop :=
  X.1.tables.exec = Jvm.exec ∧ X.2.2.2.2.2.2.2.code = cc ∧ X.2.2.2.2.2.2.2.maxLocals = nL ∧ X.2.2.1.vm.findClass own = some X.2.2.2.1.cls ∧ (∀ w ∈ BIG, w.before X.2.2.2.2.1 X.2.2.1 = true) ∧ Tb G X.2.2.1 X.2.2.1.heap ∧ AdOK G ad ∧ X.2.2.2.2.2.2.1.sig.returnType = ret ∧ X.2.2.2.2.2.2.1.locks = false
def KF (l : Launch) (R : Room) (nL : Nat) (G : GL) (ad : Nat → Nat) (E : Mem → Nat → va_E) (Qc : CT → Rv → State → Prop) (X : CT) (o : Option Rv) (L : List (Option Value)) (pc : Nat) (stk : List Value) (M : Mem) : Prop :=
  ∀ (r : Rv), o = some r → ∀ (H : Heap) (locs : List Loc) (ls : Array Slot), va_P G.1 vwCl (wl ad (E M)) H → va_S G.2.2.1 X.2.2.1.heap H locs → lvh ls nL L → W X.1 l X.2.1 R X.2.2.1 X.2.2.2.1 X.2.2.2.2.1 X.2.2.2.2.2.1 X.2.2.2.2.2.2.1 X.2.2.2.2.2.2.2 H locs 0 0 (Qc X r) (F0 X.2.2.2.1 pc ls stk)
section KROWS
variable {l : Launch} {R : Room} {nL : Nat} {G : GL} {ad : Nat → Nat} {E : Mem → Nat → va_E} {Qc : CT → Rv → State → Prop} {X : CT} {o : Option Rv} {L L' : List (Option Value)} {pc : Nat} {stk : List Value} {M : Mem} {cc : ByteArray} {own : String} {ret : Option FieldType}
theorem KF.step {pc' : Nat} {stk' : List Value} (h : ∀ (H : Heap) (locs : List Loc) (ls : Array Slot) (Q : State → Prop), va_P G.1 vwCl (wl ad (E M)) H → va_S G.2.2.1 X.2.2.1.heap H locs → lvh ls nL L → W X.1 l X.2.1 R X.2.2.1 X.2.2.2.1 X.2.2.2.2.1 X.2.2.2.2.2.1 X.2.2.2.2.2.2.1 X.2.2.2.2.2.2.2 H locs 0 0 Q (F0 X.2.2.2.1 pc' ls stk') → W X.1 l X.2.1 R X.2.2.1 X.2.2.2.1 X.2.2.2.2.1 X.2.2.2.2.2.1 X.2.2.2.2.2.2.1 X.2.2.2.2.2.2.2 H locs 0 0 Q (F0 X.2.2.2.1 pc ls stk))
    (kk : KF l R nL G ad E Qc X o L pc' stk' M) : KF l R nL G ad E Qc X o L pc stk M := fun r hr H locs ls hP hS hl => h H locs ls _ hP hS hl (kk r hr H locs ls hP hS hl)
/-- another list of locals that is held, too (fewer, or the same cell under another name) -/
theorem KF.locals (h : ∀ (i : Nat) (v : Value), L'[i]? = some (some v) → L[i]? = some (some v)) (kk : KF l R nL G ad E Qc X o L' pc stk M) : KF l R nL G ad E Qc X o L pc stk M := fun r hr H locs ls hP hS hl => kk r hr H locs ls hP hS ⟨hl.1, hl.2.1, fun i v hi => hl.2.2 i v (h i v hi)⟩
theorem KF.none' : KF l R nL G ad E Qc X none L pc stk M := fun r hr => by cases hr

theorem k_iconst (hX : Cx l R cc own nL ret G ad X) {n : Int} {v : Int32} (hv : Int32.ofInt n = v) (hdg : decode cc pc = .ok (.iconst n, 1)) (kk : KF l R nL G ad E Qc X o L (pc + 1) (.int v :: stk) M) : KF l R nL G ad E Qc X o L pc stk M := KF.step (fun H locs ls Q hP hS hl h => lv_iconst hX.1 hX.2.1 hdg hv h) kk
theorem k_bipush (hX : Cx l R cc own nL ret G ad X) {n : Int} {v : Int32} (hv : (Int8.ofInt n).toInt32 = v) (hdg : decode cc pc = .ok (.bipush n, 2)) (kk : KF l R nL G ad E Qc X o L (pc + 2) (.int v :: stk) M) : KF l R nL G ad E Qc X o L pc stk M := KF.step (fun H locs ls Q hP hS hl h => lv_bipush hX.1 hX.2.1 hdg hv h) kk
theorem k_sipush (hX : Cx l R cc own nL ret G ad X) {n : Int} {v : Int32} (hv : (Int16.ofInt n).toInt32 = v) (hdg : decode cc pc = .ok (.sipush n, 3)) (kk : KF l R nL G ad E Qc X o L (pc + 3) (.int v :: stk) M) : KF l R nL G ad E Qc X o L pc stk M := KF.step (fun H locs ls Q hP hS hl h => lv_sipush hX.1 hX.2.1 hdg hv h) kk
theorem k_ldc (hX : Cx l R cc own nL ret G ad X) {v : Int32} {index : Nat} (hw : Cond.constant own index v ∈ BIG) (hdg : decode cc pc = .ok (.ldc index, 2)) (kk : KF l R nL G ad E Qc X o L (pc + 2) (.int v :: stk) M) : KF l R nL G ad E Qc X o L pc stk M := KF.step (fun H locs ls Q hP hS hl h => lv_ldc hX.1 hX.2.1 hX.2.2.2.1 (hX.2.2.2.2.1 _ hw) hdg h) kk
theorem k_iload_n (hX : Cx l R cc own nL ret G ad X) {k : Fin 4} {i : Nat} {x : Int32} (hi : (k : Nat) = i) (hL : L[i]? = some (some (.int x))) (hdg : decode cc pc = .ok (.iload_n k, 1)) (kk : KF l R nL G ad E Qc X o L (pc + 1) (.int x :: stk) M) : KF l R nL G ad E Qc X o L pc stk M := KF.step (fun H locs ls Q hP hS hl h => lv_iload_n hX.1 hX.2.1 hdg hi (hl.2.2 _ _ hL).2 h) kk
theorem k_iload (hX : Cx l R cc own nL ret G ad X) {i : Nat} {x : Int32} (hL : L[i]? = some (some (.int x))) (hdg : decode cc pc = .ok (.iload i, 2)) (kk : KF l R nL G ad E Qc X o L (pc + 2) (.int x :: stk) M) : KF l R nL G ad E Qc X o L pc stk M := KF.step (fun H locs ls Q hP hS hl h => lv_iload hX.1 hX.2.1 hdg (hl.2.2 _ _ hL).2 h) kk
theorem k_aload_n (hX : Cx l R cc own nL ret G ad X) {k : Fin 4} {i a : Nat} (hi : (k : Nat) = i) (hL : L[i]? = some (some (.ref a))) (hdg : decode cc pc = .ok (.aload_n k, 1)) (kk : KF l R nL G ad E Qc X o L (pc + 1) (.ref a :: stk) M) : KF l R nL G ad E Qc X o L pc stk M := KF.step (fun H locs ls Q hP hS hl h => lv_aload_n hX.1 hX.2.1 hdg hi (hl.2.2 _ _ hL).2 h) kk
theorem k_aload (hX : Cx l R cc own nL ret G ad X) {i a : Nat} (hL : L[i]? = some (some (.ref a))) (hdg : decode cc pc = .ok (.aload i, 2)) (kk : KF l R nL G ad E Qc X o L (pc + 2) (.ref a :: stk) M) : KF l R nL G ad E Qc X o L pc stk M := KF.step (fun H locs ls Q hP hS hl h => lv_aload hX.1 hX.2.1 hdg (hl.2.2 _ _ hL).2 h) kk
theorem k_iadd (hX : Cx l R cc own nL ret G ad X) {x y : Int32} (hdg : decode cc pc = .ok (.iadd, 1)) (kk : KF l R nL G ad E Qc X o L (pc + 1) (.int (x + y) :: stk) M) : KF l R nL G ad E Qc X o L pc (.int y :: .int x :: stk) M := KF.step (fun H locs ls Q hP hS hl h => lv_iadd hX.1 hX.2.1 hdg h) kk
theorem k_isub (hX : Cx l R cc own nL ret G ad X) {x y : Int32} (hdg : decode cc pc = .ok (.isub, 1)) (kk : KF l R nL G ad E Qc X o L (pc + 1) (.int (x - y) :: stk) M) : KF l R nL G ad E Qc X o L pc (.int y :: .int x :: stk) M := KF.step (fun H locs ls Q hP hS hl h => lv_isub hX.1 hX.2.1 hdg h) kk
theorem k_imul (hX : Cx l R cc own nL ret G ad X) {x y : Int32} (hdg : decode cc pc = .ok (.imul, 1)) (kk : KF l R nL G ad E Qc X o L (pc + 1) (.int (x * y) :: stk) M) : KF l R nL G ad E Qc X o L pc (.int y :: .int x :: stk) M := KF.step (fun H locs ls Q hP hS hl h => lv_imul hX.1 hX.2.1 hdg h) kk
theorem k_iand (hX : Cx l R cc own nL ret G ad X) {x y : Int32} (hdg : decode cc pc = .ok (.iand, 1)) (kk : KF l R nL G ad E Qc X o L (pc + 1) (.int (x &&& y) :: stk) M) : KF l R nL G ad E Qc X o L pc (.int y :: .int x :: stk) M := KF.step (fun H locs ls Q hP hS hl h => lv_iand hX.1 hX.2.1 hdg h) kk
theorem k_ior (hX : Cx l R cc own nL ret G ad X) {x y : Int32} (hdg : decode cc pc = .ok (.ior, 1)) (kk : KF l R nL G ad E Qc X o L (pc + 1) (.int (x ||| y) :: stk) M) : KF l R nL G ad E Qc X o L pc (.int y :: .int x :: stk) M := KF.step (fun H locs ls Q hP hS hl h => lv_ior hX.1 hX.2.1 hdg h) kk
theorem k_ixor (hX : Cx l R cc own nL ret G ad X) {x y : Int32} (hdg : decode cc pc = .ok (.ixor, 1)) (kk : KF l R nL G ad E Qc X o L (pc + 1) (.int (x ^^^ y) :: stk) M) : KF l R nL G ad E Qc X o L pc (.int y :: .int x :: stk) M := KF.step (fun H locs ls Q hP hS hl h => lv_ixor hX.1 hX.2.1 hdg h) kk
theorem k_ishl (hX : Cx l R cc own nL ret G ad X) {x y : Int32} (hdg : decode cc pc = .ok (.ishl, 1)) (kk : KF l R nL G ad E Qc X o L (pc + 1) (.int (x <<< (y &&& 31)) :: stk) M) : KF l R nL G ad E Qc X o L pc (.int y :: .int x :: stk) M := KF.step (fun H locs ls Q hP hS hl h => lv_ishl hX.1 hX.2.1 hdg h) kk
theorem k_ishr (hX : Cx l R cc own nL ret G ad X) {x y : Int32} (hdg : decode cc pc = .ok (.ishr, 1)) (kk : KF l R nL G ad E Qc X o L (pc + 1) (.int (x >>> (y &&& 31)) :: stk) M) : KF l R nL G ad E Qc X o L pc (.int y :: .int x :: stk) M := KF.step (fun H locs ls Q hP hS hl h => lv_ishr hX.1 hX.2.1 hdg h) kk
theorem k_irem (hX : Cx l R cc own nL ret G ad X) {x y : Int32} (hne : ¬ y = 0) (hdg : decode cc pc = .ok (.irem, 1)) (kk : KF l R nL G ad E Qc X o L (pc + 1) (.int (x - x / y * y) :: stk) M) : KF l R nL G ad E Qc X o L pc (.int y :: .int x :: stk) M := KF.step (fun H locs ls Q hP hS hl h => lv_irem hX.1 hX.2.1 hdg hne h) kk
theorem k_iushr (hX : Cx l R cc own nL ret G ad X) {x y : Int32} (hdg : decode cc pc = .ok (.iushr, 1)) (kk : KF l R nL G ad E Qc X o L (pc + 1) (.int (mushr x y) :: stk) M) : KF l R nL G ad E Qc X o L pc (.int y :: .int x :: stk) M := KF.step (fun H locs ls Q hP hS hl h => lv_iushr hX.1 hX.2.1 hdg rfl h) kk
theorem k_i2c (hX : Cx l R cc own nL ret G ad X) {x : Int32} (hdg : decode cc pc = .ok (.i2c, 1)) (kk : KF l R nL G ad E Qc X o L (pc + 1) (.int (mi2c x) :: stk) M) : KF l R nL G ad E Qc X o L pc (.int x :: stk) M := KF.step (fun H locs ls Q hP hS hl h => lv_i2c hX.1 hX.2.1 hdg rfl h) kk
theorem k_dup (hX : Cx l R cc own nL ret G ad X) {va : Value} (hva : va.category = 1) (hdg : decode cc pc = .ok (.dup, 1)) (kk : KF l R nL G ad E Qc X o L (pc + 1) (va :: va :: stk) M) : KF l R nL G ad E Qc X o L pc (va :: stk) M := KF.step (fun H locs ls Q hP hS hl h => lv_dup hX.1 hX.2.1 hdg hva h) kk
theorem k_dup2 (hX : Cx l R cc own nL ret G ad X) {va vb : Value} (hva : va.category = 1) (hvb : vb.category = 1) (hdg : decode cc pc = .ok (.dup2, 1)) (kk : KF l R nL G ad E Qc X o L (pc + 1) (va :: vb :: va :: vb :: stk) M) : KF l R nL G ad E Qc X o L pc (va :: vb :: stk) M := KF.step (fun H locs ls Q hP hS hl h => lv_dup2_11 hX.1 hX.2.1 hdg hva hvb h) kk
theorem k_pop (hX : Cx l R cc own nL ret G ad X) {va : Value} (hva : va.category = 1) (hdg : decode cc pc = .ok (.pop, 1)) (kk : KF l R nL G ad E Qc X o L (pc + 1) stk M) : KF l R nL G ad E Qc X o L pc (va :: stk) M := KF.step (fun H locs ls Q hP hS hl h => lv_pop hX.1 hX.2.1 hdg hva h) kk
theorem k_null (hX : Cx l R cc own nL ret G ad X) (hdg : decode cc pc = .ok (.aconst_null, 1)) (kk : KF l R nL G ad E Qc X o L (pc + 1) (.null :: stk) M) : KF l R nL G ad E Qc X o L pc stk M := KF.step (fun H locs ls Q hP hS hl h => lv_null hX.1 hX.2.1 hdg h) kk
theorem k_goto (hX : Cx l R cc own nL ret G ad X) {off : Int} {tgt : Nat} (hdg : decode cc pc = .ok (.goto off, 3)) (ht : (pc : Int) + off = (tgt : Int)) (kk : KF l R nL G ad E Qc X o L tgt stk M) : KF l R nL G ad E Qc X o L pc stk M := KF.step (fun H locs ls Q hP hS hl h => lv_goto hX.1 hX.2.1 hdg ht h) kk
theorem k_istore_n (hX : Cx l R cc own nL ret G ad X) {k : Fin 4} {i : Nat} {x : Int32} (hi : (k : Nat) = i) (hn : i < nL) (hL : L.set i (some (.int x)) = L') (hdg : decode cc pc = .ok (.istore_n k, 1)) (kk : KF l R nL G ad E Qc X o L' (pc + 1) stk M) : KF l R nL G ad E Qc X o L pc (.int x :: stk) M := fun r hr H locs ls hP hS hl => lv_istore_n (lv := lprs L) hX.1 hX.2.1 hdg hi hl.has hn rfl (fun ls' hl' => kk r hr H locs ls' hP hS (hl.set rfl hL hl'))
theorem k_istore (hX : Cx l R cc own nL ret G ad X) {i : Nat} {x : Int32} (hn : i < nL) (hL : L.set i (some (.int x)) = L') (hdg : decode cc pc = .ok (.istore i, 2)) (kk : KF l R nL G ad E Qc X o L' (pc + 2) stk M) : KF l R nL G ad E Qc X o L pc (.int x :: stk) M := fun r hr H locs ls hP hS hl => lv_istore (lv := lprs L) hX.1 hX.2.1 hdg hl.has hn rfl (fun ls' hl' => kk r hr H locs ls' hP hS (hl.set rfl hL hl'))
theorem k_astore_n (hX : Cx l R cc own nL ret G ad X) {k : Fin 4} {i : Nat} {x : Nat} (hi : (k : Nat) = i) (hn : i < nL) (hL : L.set i (some (.ref x)) = L') (hdg : decode cc pc = .ok (.astore_n k, 1)) (kk : KF l R nL G ad E Qc X o L' (pc + 1) stk M) : KF l R nL G ad E Qc X o L pc (.ref x :: stk) M := fun r hr H locs ls hP hS hl => lv_astore_n (lv := lprs L) hX.1 hX.2.1 hdg hi hl.has hn rfl (fun ls' hl' => kk r hr H locs ls' hP hS (hl.set rfl hL hl'))
theorem k_astore (hX : Cx l R cc own nL ret G ad X) {i : Nat} {x : Nat} (hn : i < nL) (hL : L.set i (some (.ref x)) = L') (hdg : decode cc pc = .ok (.astore i, 2)) (kk : KF l R nL G ad E Qc X o L' (pc + 2) stk M) : KF l R nL G ad E Qc X o L pc (.ref x :: stk) M := fun r hr H locs ls hP hS hl => lv_astore (lv := lprs L) hX.1 hX.2.1 hdg hl.has hn rfl (fun ls' hl' => kk r hr H locs ls' hP hS (hl.set rfl hL hl'))
theorem k_iinc (hX : Cx l R cc own nL ret G ad X) {i : Nat} {n : Int} {x v : Int32} (hx : L[i]? = some (some (.int x))) (hv : x + Int32.ofInt n = v) (hn : i < nL) (hL : L.set i (some (.int v)) = L') (hdg : decode cc pc = .ok (.iinc i n, 3)) (kk : KF l R nL G ad E Qc X o L' (pc + 3) stk M) : KF l R nL G ad E Qc X o L pc stk M := fun r hr H locs ls hP hS hl => by
  obtain ⟨k, hk⟩ := List.getElem?_of_mem (mem_lprs.mpr hx)
  exact lv_iinc (lv := lprs L) hX.1 hX.2.1 hdg hl.has hk hv hn rfl (fun ls' hl' => kk r hr H locs ls' hP hS (hl.set rfl hL hl'))
theorem k_if_eq (hX : Cx l R cc own nL ret G ad X) {A1 A2 : Option Rv} {x : Int32} {off : Int} {tgt : Nat} (hdg : decode cc pc = .ok (.ifCond .eq off, 3)) (ht : (pc : Int) + off = (tgt : Int)) (kt : x = 0 → KF l R nL G ad E Qc X A1 L tgt stk M) (kf : ¬ x = 0 → KF l R nL G ad E Qc X A2 L (pc + 3) stk M) : KF l R nL G ad E Qc X (if x = 0 then A1 else A2) L pc (.int x :: stk) M := fun r hr H locs ls hP hS hl => lv_if_eq hX.1 hX.2.1 hdg ht (fun c => kt c r (by rw [if_pos c] at hr; exact hr) H locs ls hP hS hl) (fun c => kf c r (by rw [if_neg c] at hr; exact hr) H locs ls hP hS hl)
theorem k_icmp_eq (hX : Cx l R cc own nL ret G ad X) {A1 A2 : Option Rv} {x y : Int32} {off : Int} {tgt : Nat} (hdg : decode cc pc = .ok (.if_icmp .eq off, 3)) (ht : (pc : Int) + off = (tgt : Int)) (kt : x = y → KF l R nL G ad E Qc X A1 L tgt stk M) (kf : ¬ x = y → KF l R nL G ad E Qc X A2 L (pc + 3) stk M) : KF l R nL G ad E Qc X (if x = y then A1 else A2) L pc (.int y :: .int x :: stk) M := fun r hr H locs ls hP hS hl => lv_icmp_eq hX.1 hX.2.1 hdg ht (fun c => kt c r (by rw [if_pos c] at hr; exact hr) H locs ls hP hS hl) (fun c => kf c r (by rw [if_neg c] at hr; exact hr) H locs ls hP hS hl)
theorem k_if_ne (hX : Cx l R cc own nL ret G ad X) {A1 A2 : Option Rv} {x : Int32} {off : Int} {tgt : Nat} (hdg : decode cc pc = .ok (.ifCond .ne off, 3)) (ht : (pc : Int) + off = (tgt : Int)) (kt : ¬ x = 0 → KF l R nL G ad E Qc X A2 L tgt stk M) (kf : x = 0 → KF l R nL G ad E Qc X A1 L (pc + 3) stk M) : KF l R nL G ad E Qc X (if x = 0 then A1 else A2) L pc (.int x :: stk) M := fun r hr H locs ls hP hS hl => lv_if_ne hX.1 hX.2.1 hdg ht (fun c => kt c r (by rw [if_neg c] at hr; exact hr) H locs ls hP hS hl) (fun c => kf c r (by rw [if_pos c] at hr; exact hr) H locs ls hP hS hl)
theorem k_icmp_ne (hX : Cx l R cc own nL ret G ad X) {A1 A2 : Option Rv} {x y : Int32} {off : Int} {tgt : Nat} (hdg : decode cc pc = .ok (.if_icmp .ne off, 3)) (ht : (pc : Int) + off = (tgt : Int)) (kt : ¬ x = y → KF l R nL G ad E Qc X A2 L tgt stk M) (kf : x = y → KF l R nL G ad E Qc X A1 L (pc + 3) stk M) : KF l R nL G ad E Qc X (if x = y then A1 else A2) L pc (.int y :: .int x :: stk) M := fun r hr H locs ls hP hS hl => lv_icmp_ne hX.1 hX.2.1 hdg ht (fun c => kt c r (by rw [if_neg c] at hr; exact hr) H locs ls hP hS hl) (fun c => kf c r (by rw [if_pos c] at hr; exact hr) H locs ls hP hS hl)
theorem k_if_lt (hX : Cx l R cc own nL ret G ad X) {A1 A2 : Option Rv} {x : Int32} {off : Int} {tgt : Nat} (hdg : decode cc pc = .ok (.ifCond .lt off, 3)) (ht : (pc : Int) + off = (tgt : Int)) (kt : x < 0 → KF l R nL G ad E Qc X A1 L tgt stk M) (kf : ¬ x < 0 → KF l R nL G ad E Qc X A2 L (pc + 3) stk M) : KF l R nL G ad E Qc X (if x < 0 then A1 else A2) L pc (.int x :: stk) M := fun r hr H locs ls hP hS hl => lv_if_lt hX.1 hX.2.1 hdg ht (fun c => kt c r (by rw [if_pos c] at hr; exact hr) H locs ls hP hS hl) (fun c => kf c r (by rw [if_neg c] at hr; exact hr) H locs ls hP hS hl)
theorem k_icmp_lt (hX : Cx l R cc own nL ret G ad X) {A1 A2 : Option Rv} {x y : Int32} {off : Int} {tgt : Nat} (hdg : decode cc pc = .ok (.if_icmp .lt off, 3)) (ht : (pc : Int) + off = (tgt : Int)) (kt : x < y → KF l R nL G ad E Qc X A1 L tgt stk M) (kf : ¬ x < y → KF l R nL G ad E Qc X A2 L (pc + 3) stk M) : KF l R nL G ad E Qc X (if x < y then A1 else A2) L pc (.int y :: .int x :: stk) M := fun r hr H locs ls hP hS hl => lv_icmp_lt hX.1 hX.2.1 hdg ht (fun c => kt c r (by rw [if_pos c] at hr; exact hr) H locs ls hP hS hl) (fun c => kf c r (by rw [if_neg c] at hr; exact hr) H locs ls hP hS hl)
theorem k_if_ge (hX : Cx l R cc own nL ret G ad X) {A1 A2 : Option Rv} {x : Int32} {off : Int} {tgt : Nat} (hdg : decode cc pc = .ok (.ifCond .ge off, 3)) (ht : (pc : Int) + off = (tgt : Int)) (kt : ¬ x < 0 → KF l R nL G ad E Qc X A2 L tgt stk M) (kf : x < 0 → KF l R nL G ad E Qc X A1 L (pc + 3) stk M) : KF l R nL G ad E Qc X (if x < 0 then A1 else A2) L pc (.int x :: stk) M := fun r hr H locs ls hP hS hl => lv_if_ge hX.1 hX.2.1 hdg ht (fun c => kt (Int32.not_lt.mpr c) r (by rw [if_neg (Int32.not_lt.mpr c)] at hr; exact hr) H locs ls hP hS hl) (fun c => kf (Int32.not_le.mp c) r (by rw [if_pos (Int32.not_le.mp c)] at hr; exact hr) H locs ls hP hS hl)
theorem k_icmp_ge (hX : Cx l R cc own nL ret G ad X) {A1 A2 : Option Rv} {x y : Int32} {off : Int} {tgt : Nat} (hdg : decode cc pc = .ok (.if_icmp .ge off, 3)) (ht : (pc : Int) + off = (tgt : Int)) (kt : ¬ x < y → KF l R nL G ad E Qc X A2 L tgt stk M) (kf : x < y → KF l R nL G ad E Qc X A1 L (pc + 3) stk M) : KF l R nL G ad E Qc X (if x < y then A1 else A2) L pc (.int y :: .int x :: stk) M := fun r hr H locs ls hP hS hl => lv_icmp_ge hX.1 hX.2.1 hdg ht (fun c => kt (Int32.not_lt.mpr c) r (by rw [if_neg (Int32.not_lt.mpr c)] at hr; exact hr) H locs ls hP hS hl) (fun c => kf (Int32.not_le.mp c) r (by rw [if_pos (Int32.not_le.mp c)] at hr; exact hr) H locs ls hP hS hl)
theorem k_if_gt (hX : Cx l R cc own nL ret G ad X) {A1 A2 : Option Rv} {x : Int32} {off : Int} {tgt : Nat} (hdg : decode cc pc = .ok (.ifCond .gt off, 3)) (ht : (pc : Int) + off = (tgt : Int)) (kt : 0 < x → KF l R nL G ad E Qc X A1 L tgt stk M) (kf : ¬ 0 < x → KF l R nL G ad E Qc X A2 L (pc + 3) stk M) : KF l R nL G ad E Qc X (if 0 < x then A1 else A2) L pc (.int x :: stk) M := fun r hr H locs ls hP hS hl => lv_if_gt hX.1 hX.2.1 hdg ht (fun c => kt c r (by rw [if_pos c] at hr; exact hr) H locs ls hP hS hl) (fun c => kf c r (by rw [if_neg c] at hr; exact hr) H locs ls hP hS hl)
theorem k_icmp_gt (hX : Cx l R cc own nL ret G ad X) {A1 A2 : Option Rv} {x y : Int32} {off : Int} {tgt : Nat} (hdg : decode cc pc = .ok (.if_icmp .gt off, 3)) (ht : (pc : Int) + off = (tgt : Int)) (kt : y < x → KF l R nL G ad E Qc X A1 L tgt stk M) (kf : ¬ y < x → KF l R nL G ad E Qc X A2 L (pc + 3) stk M) : KF l R nL G ad E Qc X (if y < x then A1 else A2) L pc (.int y :: .int x :: stk) M := fun r hr H locs ls hP hS hl => lv_icmp_gt hX.1 hX.2.1 hdg ht (fun c => kt c r (by rw [if_pos c] at hr; exact hr) H locs ls hP hS hl) (fun c => kf c r (by rw [if_neg c] at hr; exact hr) H locs ls hP hS hl)
theorem k_if_le (hX : Cx l R cc own nL ret G ad X) {A1 A2 : Option Rv} {x : Int32} {off : Int} {tgt : Nat} (hdg : decode cc pc = .ok (.ifCond .le off, 3)) (ht : (pc : Int) + off = (tgt : Int)) (kt : ¬ 0 < x → KF l R nL G ad E Qc X A2 L tgt stk M) (kf : 0 < x → KF l R nL G ad E Qc X A1 L (pc + 3) stk M) : KF l R nL G ad E Qc X (if 0 < x then A1 else A2) L pc (.int x :: stk) M := fun r hr H locs ls hP hS hl => lv_if_le hX.1 hX.2.1 hdg ht (fun c => kt (Int32.not_lt.mpr c) r (by rw [if_neg (Int32.not_lt.mpr c)] at hr; exact hr) H locs ls hP hS hl) (fun c => kf (Int32.not_le.mp c) r (by rw [if_pos (Int32.not_le.mp c)] at hr; exact hr) H locs ls hP hS hl)
theorem k_icmp_le (hX : Cx l R cc own nL ret G ad X) {A1 A2 : Option Rv} {x y : Int32} {off : Int} {tgt : Nat} (hdg : decode cc pc = .ok (.if_icmp .le off, 3)) (ht : (pc : Int) + off = (tgt : Int)) (kt : ¬ y < x → KF l R nL G ad E Qc X A2 L tgt stk M) (kf : y < x → KF l R nL G ad E Qc X A1 L (pc + 3) stk M) : KF l R nL G ad E Qc X (if y < x then A1 else A2) L pc (.int y :: .int x :: stk) M := fun r hr H locs ls hP hS hl => lv_icmp_le hX.1 hX.2.1 hdg ht (fun c => kt (Int32.not_lt.mpr c) r (by rw [if_neg (Int32.not_lt.mpr c)] at hr; exact hr) H locs ls hP hS hl) (fun c => kf (Int32.not_le.mp c) r (by rw [if_pos (Int32.not_le.mp c)] at hr; exact hr) H locs ls hP hS hl)
end KROWS
end
section
/-! CELLS OF THE WORLD: what an entry says, for every memory -/
def LocE (E : Mem → Nat → va_E) : Prop := ∀ (M M' : Mem) (c : Nat), M c = M' c → E M c = E M' c
def isA (G : GL) (E : Mem → Nat → va_E) (c n t : Nat) : Prop := c < NC ∧ ∀ M : Mem, E M c = .inl (G.2.1 t, n, .inl (M c))
def isO (E : Mem → Nat → va_E) (c ci : Nat) (fs : (Nat → Int32) → List Value) : Prop := c < NC ∧ ∀ M : Mem, E M c = .inr (ci, fs (M c))
def isQ (G : GL) (E : Mem → Nat → va_E) (c n t : Nat) (f : (Nat → Int32) → Nat → Option Nat) : Prop := c < NC ∧ ∀ M : Mem, E M c = .inl (G.2.1 t, n, .inr (.inr (.inr (.inr (f (M c))))))
theorem mwr_eq (M : Mem) (c k : Nat) (v : Int32) : mwr M c k v c = upd (M c) k v := if_pos rfl
theorem mwr_ne (M : Mem) {c a : Nat} (k : Nat) (v : Int32) (h : a ≠ c) : mwr M c k v a = M a := if_neg h
theorem bind_some {α β : Type} {x : Option α} {F : α → Option β} {r : β} (h : x.bind F = some r) : ∃ a, x = some a ∧ F a = some r := by
  cases x with
  | none => cases h
  | some a => exact ⟨a, rfl, h⟩
theorem narrow_z {v : Int32} (h : v = 0 ∨ v = 1) : narrow .boolean (.int v) = .int v ∧ fits .boolean (.int v) = true := by
  rcases h with rfl | rfl <;> exact ⟨rfl, rfl⟩
theorem isSb_lt {c : Nat} (h : isSb c = true) : c < 218 := by
  unfold isSb at h
  simp only [Bool.and_eq_true] at h
  exact Nat.blt_eq.mp h.1.2
theorem isWb_lt {c : Nat} (h : isWb c = true) : c < 218 := by
  unfold isWb at h
  simp only [Bool.and_eq_true] at h
  exact Nat.blt_eq.mp h.1.1.2
/-! PACKED WORDS -/
def FLk (own : String) (index ci k : Nat) : Prop := ∃ (C : String) (T : u_T) (N : Nat), vwCl[ci]? = some (C, T, N) ∧ (∀ w ∈ u_ws C T N, w ∈ BIG) ∧ k < N ∧ (Cond.fieldLink own index (T k).1 (T k).2.1 (T k).2.2.1 ∈ BIG ∨ ∃ host, (own, index, (T k).1, (T k).2.1, (T k).2.2.1, host) ∈ NWf)
def FPk (own : String) (index ci k : Nat) (ty : FieldType) : Prop := ∃ (C : String) (T : u_T) (N : Nat) (ty0 : Nat → FieldType), vwCl[ci]? = some (C, T, N) ∧ (∀ w ∈ u_ws C T N, w ∈ BIG) ∧ k < N ∧ (∀ j, j < N → parseFieldDescriptor (T j).2.2.1 = some (ty0 j)) ∧ (∀ a, a < N → ∀ b, b < N → a ≠ b → (T a).2.1 ≠ (T b).2.1) ∧ (T k).2.2.2 = false ∧ parseFieldDescriptor (T k).2.2.1 = some ty ∧ (Cond.fieldLink own index (T k).1 (T k).2.1 (T k).2.2.1 ∈ BIG ∨ ∃ host, (own, index, (T k).1, (T k).2.1, (T k).2.2.1, host) ∈ NWf)
def SLk (own : String) (index : Nat) (n d : String) : Prop := Cond.fieldLink own index RX6 n d ∈ BIG ∨ ∃ host, (own, index, RX6, n, d, host) ∈ NWf
def MLk (own : String) (index : Nat) (y : MethodName) (cy : ByteArray) (my : Nat) (ret : Option FieldType) (n : Nat) : Prop := (Cond.methodLink own index y ∈ BIG ∨ ∃ host, (own, index, y, host) ∈ NWm) ∧ Cond.code y cy my ret ∈ BIG ∧ Cond.initialized y.cls ∈ BIG ∧ (y.cls ≠ "java/lang/invoke/MethodHandle" ∧ y.cls ≠ "java/lang/invoke/VarHandle" ∧ (parseMethodDescriptor y.desc).map (fun d => d.parameters.length) = some n)
def MLv (own : String) (index : Nat) (y : MethodName) (cy : ByteArray) (my : Nat) (ret : Option FieldType) (n : Nat) : Prop := MLk own index y cy my ret n ∧ Cond.instanceMethod y ∈ BIG ∧ Cond.selects y.cls y y ∈ BIG
def MLs (own : String) (index : Nat) (y : MethodName) (cy : ByteArray) (my : Nat) (ret : Option FieldType) (n : Nat) : Prop := MLk own index y cy my ret n ∧ Cond.static y ∈ BIG
/-! CONTRACTS -/
def PostI (G : GL) (ad : Nat → Nat) (E : Mem → Nat → va_E) (r : Rv) : Array Value → State → Outcome → State → Prop := va_Qi (fun (v : Int32) (_ : Unit) => v = r.1) (fun _ t => va_P G.1 vwCl (wl ad (E r.2)) t.heap) G.2.2.1
def PostV (G : GL) (ad : Nat → Nat) (E : Mem → Nat → va_E) (r : Rv) : Array Value → State → Outcome → State → Prop := va_Qv (fun (_ : Unit) => True) (fun _ t => va_P G.1 vwCl (wl ad (E r.2)) t.heap) G.2.2.1
def nqv (ad : Nat → Nat) (v : Int32) : Option Nat := if v = 0 then none else some (ad v.toNatClampNeg)
def PostQ (G : GL) (ad : Nat → Nat) (E : Mem → Nat → va_E) (r : Rv) : Array Value → State → Outcome → State → Prop := va_Qq (fun (v : Option Nat) (_ : Unit) => v = nqv ad r.1) (fun _ t => va_P G.1 vwCl (wl ad (E r.2)) t.heap) G.2.2.1
def Ct (Po : GL → (Nat → Nat) → (Mem → Nat → va_E) → Rv → Array Value → State → Outcome → State → Prop) (l : Launch) (G : GL) (ad : Nat → Nat) (E : Mem → Nat → va_E) (y : MethodName) (cy : ByteArray) (my : Nat) (ret : Option FieldType) (fr lo : Nat) (vs : List Value) (M : Mem) (r : Rv) : Prop :=
  Met l y (Cond.code y cy my ret :: BIG) { frames := fr, cells := 0, slots := 0, locals := lo } (va_Pc vs (Pw G ad E M)) (Po G ad E r) 0 0 G.2.2.1
def QP (Po : GL → (Nat → Nat) → (Mem → Nat → va_E) → Rv → Array Value → State → Outcome → State → Prop) (G : GL) (ad : Nat → Nat) (E : Mem → Nat → va_E) : CT → Rv → State → Prop := fun X r => MQ X.2.2.2.2.2.1 (Po G ad E r) X.2.2.2.2.1 X.2.2.1 0 0 G.2.2.1
theorem ct_of {Po : GL → (Nat → Nat) → (Mem → Nat → va_E) → Rv → Array Value → State → Outcome → State → Prop} {l : Launch} {G : GL} {ad : Nat → Nat} {E : Mem → Nat → va_E} {y : MethodName} {cy : ByteArray} {my : Nat} {ret : Option FieldType} {fr lo : Nat} {vs : List Value} {M : Mem} {r : Rv} {o : Option Rv} {L : List (Option Value)}
    (hAd : AdOK G ad) (hp : plainName y.cls = true) (hc : ∀ v ∈ vs, v.category = 1) (hlen : (lg_sl vs).length ≤ my) (hL : ∀ (i : Nat) (v : Value), L[i]? = some (some v) → vs[i]? = some v)
    (body : ∀ X : CT, Cx l { frames := fr, cells := 0, slots := 0, locals := lo } cy y.cls my ret G ad X → KF l { frames := fr, cells := 0, slots := 0, locals := lo } my G ad E (QP Po G ad E) X o L 0 [] M) (ho : o = some r) : Ct Po l G ad E y cy my ret fr lo vs M r := by
  refine Met.ofW (cc := cy) (maxL := my) (ret := ret) hp rfl ?_
  intro p e s m args below meth c s₁ B hml hv
  obtain ⟨rfl, hP, hT⟩ := hv
  have hts := atoms_spec (ws := Cond.code y cy my ret :: BIG) B.pre
  have hl := lv_entry vs (n := my) hlen
  rw [lg_entry_eq]
  generalize (lg_sl vs ++ List.replicate (my - (lg_sl vs).length) Slot.unset).toArray = ls at hl ⊢
  exact body (p, e, s, m, vs.toArray, below, meth, c) ⟨B.exec, B.bytes, hml, findClass_of_methodNamed B.named, fun w hw => hts w (List.mem_cons_of_mem _ hw), hT, hAd, B.returns, B.notSynchronized⟩ r ho s.heap [] ls hP va_S.rf (lvh_entry hl hc hL)
section KROWS2
variable {l : Launch} {R : Room} {nL : Nat} {G : GL} {ad : Nat → Nat} {E : Mem → Nat → va_E} {Qc : CT → Rv → State → Prop} {X : CT} {o : Option Rv} {L L' : List (Option Value)} {pc : Nat} {stk : List Value} {M : Mem} {cc : ByteArray} {own : String} {ret : Option FieldType}
theorem Cx.link {own' : String} {index : Nat} {C n d : String} (hX : Cx l R cc own nL ret G ad X) (h : Cond.fieldLink own index C n d ∈ BIG ∨ ∃ host, (own, index, C, n, d, host) ∈ NWf) : (Cond.fieldLink own index C n d).before X.2.2.2.2.1 X.2.2.1 = true ∨ ∃ host, (Cond.fieldLinkNest own index C n d host).before X.2.2.2.2.1 X.2.2.1 = true := by
  rcases h with h | ⟨host, h⟩
  · exact Or.inl (hX.2.2.2.2.1 _ h)
  · exact Or.inr ⟨host, va_Nw.use rfl (hX.2.2.2.2.2.1.2.1.1 _ h)⟩
theorem k_get (hX : Cx l R cc own nL ret G ad X) {c ci k index : Nat} {fs : (Nat → Int32) → List Value} {v : Value} (hO : isO E c ci fs) (hF : FLk own index ci k) (hv : (fs (M c))[k]? = some v) (hdg : decode cc pc = .ok (.getfield index, 3)) (kk : KF l R nL G ad E Qc X o L (pc + 3) (v :: stk) M) : KF l R nL G ad E Qc X o L pc (.ref (ad c) :: stk) M := by
  obtain ⟨C, T, N, hc, hin, hk, hw⟩ := hF
  refine KF.step (fun H locs ls Q hP hS hl h => ?_) kk
  have he : (wl ad (E M))[c]? = some (ad c, .inr (ci, fs (M c))) := by rw [wl_at hO.1, hO.2]
  rcases Cx.link (own' := own) hX hw with hlk | ⟨host, hlk⟩
  · exact va_get hX.1 hX.2.1 hX.2.2.2.2.1 hin hX.2.2.2.1 hX.2.2.2.2.2.1.1 hP c he hc k hk hlk (fun _ h9 => h9) hv hdg h
  · exact va_getN hX.1 hX.2.1 hX.2.2.2.2.1 hin hX.2.2.2.1 hX.2.2.2.2.2.1.1 hP c he hc k hk hlk (fun _ h9 => h9) hv hdg h
theorem k_put (hX : Cx l R cc own nL ret G ad X) {c ci k index : Nat} {fs : (Nat → Int32) → List Value} {v : Value} {x : Int32} {ty : FieldType} (hLoc : LocE E) (hO : isO E c ci fs) (hF : FPk own index ci k ty) (hn : narrow ty v = v) (hfit : fits ty v = true) (hlen : k < (fs (M c)).length) (hset : (fs (M c)).set k v = fs (upd (M c) k x)) (hdg : decode cc pc = .ok (.putfield index, 3)) (kk : KF l R nL G ad E Qc X o L (pc + 3) stk (mwr M c k x)) : KF l R nL G ad E Qc X o L pc (v :: .ref (ad c) :: stk) M := by
  obtain ⟨C, T, N, ty0, hc, hin, hk, hty, hnm, hfin, hd, hw⟩ := hF
  intro r hr H locs ls hP hS hl
  have he : (wl ad (E M))[c]? = some (ad c, .inr (ci, fs (M c))) := by rw [wl_at hO.1, hO.2]
  have hD := AdOK.D hX.2.2.2.2.2.2.1 (E M)
  have hws : (wl ad (E M)).set c (ad c, .inr (ci, (fs (M c)).set k v)) = wl ad (E (mwr M c k x)) := by
    refine wl_set ?_ (fun j hj => hLoc _ _ _ (mwr_ne M k x hj))
    rw [hO.2, mwr_eq, hset]
  have go : ∀ (H1 : Heap) (locs1 : List Loc), va_P G.1 vwCl ((wl ad (E M)).set c (ad c, .inr (ci, (fs (M c)).set k v))) H1 → va_D G.2.2.1 ((wl ad (E M)).set c (ad c, .inr (ci, (fs (M c)).set k v))) → va_S G.2.2.1 X.2.2.1.heap H1 locs1 → W X.1 l X.2.1 R X.2.2.1 X.2.2.2.1 X.2.2.2.2.1 X.2.2.2.2.2.1 X.2.2.2.2.2.2.1 X.2.2.2.2.2.2.2 H1 locs1 0 0 (Qc X r) (F0 X.2.2.2.1 (pc + 3) ls stk) := fun H1 locs1 hP1 _ hS1 => kk r hr H1 locs1 ls (hws ▸ hP1) hS1 hl
  rcases Cx.link (own' := own) hX hw with hlk | ⟨host, hlk⟩
  · exact va_put hX.1 hX.2.1 hX.2.2.2.2.1 hin ty0 hty hnm hX.2.2.2.1 hX.2.2.2.2.2.1.1 hP hD hS c he hc k hk hlk (fun _ h9 => h9) hfin hd hn hfit hlen hdg go
  · exact va_putN hX.1 hX.2.1 hX.2.2.2.2.1 hin ty0 hty hnm hX.2.2.2.1 hX.2.2.2.2.2.1.1 hP hD hS c he hc k hk hlk (fun _ h9 => h9) hfin hd hn hfit hlen hdg go
theorem k_puti (hX : Cx l R cc own nL ret G ad X) {c ci k index : Nat} {fs : (Nat → Int32) → List Value} {x : Int32} {F : Mem → Option Rv} (hLoc : LocE E) (hO : isO E c ci fs) (hF : FPk own index ci k .int) (hlen : k < (fs (M c)).length) (hset : (fs (M c)).set k (.int x) = fs (upd (M c) k x)) (hdg : decode cc pc = .ok (.putfield index, 3)) (kk : ∀ M', KF l R nL G ad E Qc X (F M') L (pc + 3) stk M') : KF l R nL G ad E Qc X ((mpi M c k x).bind F) L pc (.int x :: .ref (ad c) :: stk) M :=
  k_put hX hLoc hO hF rfl rfl hlen hset hdg (kk _)
theorem k_putz (hX : Cx l R cc own nL ret G ad X) {c ci k index : Nat} {fs : (Nat → Int32) → List Value} {x : Int32} {F : Mem → Option Rv} (hLoc : LocE E) (hO : isO E c ci fs) (hF : FPk own index ci k .boolean) (hlen : k < (fs (M c)).length) (hset : (fs (M c)).set k (.int x) = fs (upd (M c) k x)) (hdg : decode cc pc = .ok (.putfield index, 3)) (kk : ∀ M', KF l R nL G ad E Qc X (F M') L (pc + 3) stk M') : KF l R nL G ad E Qc X ((mpz M c k x).bind F) L pc (.int x :: .ref (ad c) :: stk) M := by
  intro r hr
  obtain ⟨M', h1, h2⟩ := bind_some hr
  unfold mpz at h1
  split at h1
  next hz =>
    cases h1
    exact k_put hX hLoc hO hF (narrow_z hz).1 (narrow_z hz).2 hlen hset hdg (kk _) r h2
  next => cases h1
/-- a reference to a State goes into a field -/
theorem k_puts (hX : Cx l R cc own nL ret G ad X) {c ci k d index : Nat} {fs : (Nat → Int32) → List Value} {F : Mem → Option Rv} (hLoc : LocE E) (hO : isO E c ci fs) (hF : FPk own index ci k (.object RX4)) (hlen : k < (fs (M c)).length) (hset : (fs (M c)).set k (.ref (ad d)) = fs (upd (M c) k (nI d))) (hdg : decode cc pc = .ok (.putfield index, 3)) (kk : ∀ M', KF l R nL G ad E Qc X (F M') L (pc + 3) stk M') : KF l R nL G ad E Qc X ((mpi M c k (nI d)).bind F) L pc (.ref (ad d) :: .ref (ad c) :: stk) M :=
  k_put hX hLoc hO hF rfl rfl hlen hset hdg (kk _)
/-- a reference to a State is read out of a field -/
theorem k_gets (hX : Cx l R cc own nL ret G ad X) {c ci k index : Nat} {fs : (Nat → Int32) → List Value} {x : Int32} {F : Nat → Option Rv} (hO : isO E c ci fs) (hF : FLk own index ci k) (hv : (fs (M c))[k]? = some (.ref (ad x.toNatClampNeg))) (hdg : decode cc pc = .ok (.getfield index, 3)) (kk : ∀ d, isSb d = true → KF l R nL G ad E Qc X (F d) L (pc + 3) (.ref (ad d) :: stk) M) : KF l R nL G ad E Qc X ((mlS x).bind F) L pc (.ref (ad c) :: stk) M := by
  intro r hr
  obtain ⟨d, h1, h2⟩ := bind_some hr
  unfold mlS at h1
  split at h1
  next hz =>
    cases h1
    exact k_get hX hO hF hv hdg (kk _ hz) r h2
  next => cases h1
theorem k_ald (hX : Cx l R cc own nL ret G ad X) {c n : Nat} {i : Int32} {F : Int32 → Option Rv} (hA : isA G E c n 0) (hdg : decode cc pc = .ok (.iaload, 1)) (kk : ∀ v, KF l R nL G ad E Qc X (F v) L (pc + 1) (.int v :: stk) M) : KF l R nL G ad E Qc X ((mrd M c n i).bind F) L pc (.int i :: .ref (ad c) :: stk) M := by
  intro r hr H locs ls hP hS hl
  obtain ⟨v, h1, h2⟩ := bind_some hr
  unfold mrd at h1
  split at h1
  next => cases h1
  next hin =>
    cases h1
    exact va_iald hX.1 hX.2.1 hX.2.2.2.2.2.1.1 hP c 0 (cA := G.2.1 0) (n := n) (f := M c) (by rw [wl_at hA.1, hA.2]) rfl hin hdg (kk _ r h2 H locs ls hP hS hl)
theorem k_zald (hX : Cx l R cc own nL ret G ad X) {c n : Nat} {i : Int32} {F : Int32 → Option Rv} (hA : isA G E c n 1) (hdg : decode cc pc = .ok (.baload, 1)) (kk : ∀ v, KF l R nL G ad E Qc X (F v) L (pc + 1) (.int v :: stk) M) : KF l R nL G ad E Qc X ((mrd M c n i).bind F) L pc (.int i :: .ref (ad c) :: stk) M := by
  intro r hr H locs ls hP hS hl
  obtain ⟨v, h1, h2⟩ := bind_some hr
  unfold mrd at h1
  split at h1
  next => cases h1
  next hin =>
    cases h1
    exact va_zald hX.1 hX.2.1 hX.2.2.2.2.2.1.1 hP c 1 (cA := G.2.1 1) (n := n) (f := M c) (by rw [wl_at hA.1, hA.2]) rfl hin hdg (kk _ r h2 H locs ls hP hS hl)
theorem k_cald (hX : Cx l R cc own nL ret G ad X) {c n : Nat} {i : Int32} {F : Int32 → Option Rv} (hA : isA G E c n 2) (hdg : decode cc pc = .ok (.caload, 1)) (kk : ∀ v, KF l R nL G ad E Qc X (F v) L (pc + 1) (.int v :: stk) M) : KF l R nL G ad E Qc X ((mrd M c n i).bind F) L pc (.int i :: .ref (ad c) :: stk) M := by
  intro r hr H locs ls hP hS hl
  obtain ⟨v, h1, h2⟩ := bind_some hr
  unfold mrd at h1
  split at h1
  next => cases h1
  next hin =>
    cases h1
    exact va_cald hX.1 hX.2.1 hX.2.2.2.2.2.1.1 hP c 2 (cA := G.2.1 2) (n := n) (f := M c) (by rw [wl_at hA.1, hA.2]) rfl hin hdg (kk _ r h2 H locs ls hP hS hl)
theorem wl_mst {c n t : Nat} (hLoc : LocE E) (hA : isA G E c n t) (k : Nat) (v : Int32) : (wl ad (E M)).set c (ad c, .inl (G.2.1 t, n, .inl (upd (M c) k v))) = wl ad (E (mwr M c k v)) := by
  refine wl_set ?_ (fun j hj => hLoc _ _ _ (mwr_ne M k v hj))
  rw [hA.2, mwr_eq]
theorem k_ast (hX : Cx l R cc own nL ret G ad X) {c n : Nat} {i x : Int32} {F : Mem → Option Rv} (hLoc : LocE E) (hA : isA G E c n 0) (hdg : decode cc pc = .ok (.iastore, 1)) (kk : ∀ M', KF l R nL G ad E Qc X (F M') L (pc + 1) stk M') : KF l R nL G ad E Qc X ((mst M c n i x).bind F) L pc (.int x :: .int i :: .ref (ad c) :: stk) M := by
  intro r hr H locs ls hP hS hl
  obtain ⟨M', h1, h2⟩ := bind_some hr
  unfold mst at h1
  split at h1
  next => cases h1
  next hin =>
    cases h1
    exact va_iast hX.1 hX.2.1 hX.2.2.2.2.2.1.1 hP (AdOK.D hX.2.2.2.2.2.2.1 (E M)) hS c 0 (cA := G.2.1 0) (n := n) (f := M c) (by rw [wl_at hA.1, hA.2]) rfl hin hdg (fun H1 locs1 hP1 _ hS1 => kk _ r h2 H1 locs1 ls (wl_mst hLoc hA _ _ ▸ hP1) hS1 hl)
theorem k_zast (hX : Cx l R cc own nL ret G ad X) {c n : Nat} {i x : Int32} {F : Mem → Option Rv} (hLoc : LocE E) (hA : isA G E c n 1) (hdg : decode cc pc = .ok (.bastore, 1)) (kk : ∀ M', KF l R nL G ad E Qc X (F M') L (pc + 1) stk M') : KF l R nL G ad E Qc X ((mst M c n i (nz x)).bind F) L pc (.int x :: .int i :: .ref (ad c) :: stk) M := by
  intro r hr H locs ls hP hS hl
  obtain ⟨M', h1, h2⟩ := bind_some hr
  unfold mst at h1
  split at h1
  next => cases h1
  next hin =>
    cases h1
    exact va_zast hX.1 hX.2.1 hX.2.2.2.2.2.1.1 hP (AdOK.D hX.2.2.2.2.2.2.1 (E M)) hS c 1 (cA := G.2.1 1) (n := n) (f := M c) (by rw [wl_at hA.1, hA.2]) rfl hin hdg (fun H1 locs1 hP1 _ hS1 => kk _ r h2 H1 locs1 ls (wl_mst hLoc hA _ (nz x) ▸ hP1) hS1 hl)
theorem k_cast (hX : Cx l R cc own nL ret G ad X) {c n : Nat} {i x : Int32} {F : Mem → Option Rv} (hLoc : LocE E) (hA : isA G E c n 2) (hdg : decode cc pc = .ok (.castore, 1)) (kk : ∀ M', KF l R nL G ad E Qc X (F M') L (pc + 1) stk M') : KF l R nL G ad E Qc X ((mst M c n i (nc x)).bind F) L pc (.int x :: .int i :: .ref (ad c) :: stk) M := by
  intro r hr H locs ls hP hS hl
  obtain ⟨M', h1, h2⟩ := bind_some hr
  unfold mst at h1
  split at h1
  next => cases h1
  next hin =>
    cases h1
    exact va_cast hX.1 hX.2.1 hX.2.2.2.2.2.1.1 hP (AdOK.D hX.2.2.2.2.2.2.1 (E M)) hS c 2 (cA := G.2.1 2) (n := n) (f := M c) (by rw [wl_at hA.1, hA.2]) rfl hin hdg (fun H1 locs1 hP1 _ hS1 => kk _ r h2 H1 locs1 ls (wl_mst hLoc hA _ (nc x) ▸ hP1) hS1 hl)
theorem k_alen (hX : Cx l R cc own nL ret G ad X) {c n t : Nat} {v : Int32} (hA : isA G E c n t) (ht : t < 3) (hv : Int32.ofNat n = v) (hdg : decode cc pc = .ok (.arraylength, 1)) (kk : KF l R nL G ad E Qc X o L (pc + 1) (.int v :: stk) M) : KF l R nL G ad E Qc X o L pc (.ref (ad c) :: stk) M := by
  refine KF.step (fun H locs ls Q hP hS hl h => ?_) kk
  have ht2 : ∃ ty, (tyl G.2.1)[t]? = some (G.2.1 t, ty) := by
    match t, ht with
    | 0, _ => exact ⟨_, rfl⟩
    | 1, _ => exact ⟨_, rfl⟩
    | 2, _ => exact ⟨_, rfl⟩
  obtain ⟨ty, ht2⟩ := ht2
  exact va_alen hX.1 hX.2.1 hX.2.2.2.2.2.1.1 hP c t (cA := G.2.1 t) (x := (n, .inl (M c))) (by rw [wl_at hA.1, hA.2]) ht2 hv hdg h
/-- a static row of characters -/
theorem k_getll (hX : Cx l R cc own nL ret G ad X) {index : Nat} (hF : SLk own index "LEAF_LETTERS" "[C") (hdg : decode cc pc = .ok (.getstatic index, 3)) (kk : KF l R nL G ad E Qc X o L (pc + 3) (.ref G.2.2.2.1 :: stk) M) : KF l R nL G ad E Qc X o L pc stk M := by
  refine KF.step (fun H locs ls Q hP hS hl h => ?_) kk
  rcases Cx.link (own' := own) hX hF with hlk | ⟨host, hlk⟩
  · exact va_gets hX.1 hX.2.1 hX.2.2.2.2.2.1.2.2.1.1 hS hX.2.2.2.1 hlk (fun _ h9 => h9) hdg h
  · exact va_getsN hX.1 hX.2.1 hX.2.2.2.2.2.1.2.2.1.1 hS hX.2.2.2.1 hlk (fun _ h9 => h9) hdg h
theorem k_getsep (hX : Cx l R cc own nL ret G ad X) {index : Nat} (hF : SLk own index "SEPARATORS" "[C") (hdg : decode cc pc = .ok (.getstatic index, 3)) (kk : KF l R nL G ad E Qc X o L (pc + 3) (.ref G.2.2.2.2 :: stk) M) : KF l R nL G ad E Qc X o L pc stk M := by
  refine KF.step (fun H locs ls Q hP hS hl h => ?_) kk
  rcases Cx.link (own' := own) hX hF with hlk | ⟨host, hlk⟩
  · exact va_gets hX.1 hX.2.1 hX.2.2.2.2.2.1.2.2.2.1 hS hX.2.2.2.1 hlk (fun _ h9 => h9) hdg h
  · exact va_getsN hX.1 hX.2.1 hX.2.2.2.2.2.1.2.2.2.1 hS hX.2.2.2.1 hlk (fun _ h9 => h9) hdg h
theorem k_caldll (hX : Cx l R cc own nL ret G ad X) {i : Int32} {F : Int32 → Option Rv} (hdg : decode cc pc = .ok (.caload, 1)) (kk : ∀ v, KF l R nL G ad E Qc X (F v) L (pc + 1) (.int v :: stk) M) : KF l R nL G ad E Qc X ((mrs llt 16 i).bind F) L pc (.int i :: .ref G.2.2.2.1 :: stk) M := by
  intro r hr H locs ls hP hS hl
  obtain ⟨v, h1, h2⟩ := bind_some hr
  unfold mrs at h1
  split at h1
  next => cases h1
  next hin =>
    cases h1
    exact va_tc hX.1 hX.2.1 hX.2.2.2.2.2.1.2.2.1.2 hS hin rfl hdg (kk _ r h2 H locs ls hP hS hl)
theorem k_caldsep (hX : Cx l R cc own nL ret G ad X) {i : Int32} {F : Int32 → Option Rv} (hdg : decode cc pc = .ok (.caload, 1)) (kk : ∀ v, KF l R nL G ad E Qc X (F v) L (pc + 1) (.int v :: stk) M) : KF l R nL G ad E Qc X ((mrs sepf 22 i).bind F) L pc (.int i :: .ref G.2.2.2.2 :: stk) M := by
  intro r hr H locs ls hP hS hl
  obtain ⟨v, h1, h2⟩ := bind_some hr
  unfold mrs at h1
  split at h1
  next => cases h1
  next hin =>
    cases h1
    exact va_tc hX.1 hX.2.1 hX.2.2.2.2.2.1.2.2.2.2 hS hin rfl hdg (kk _ r h2 H locs ls hP hS hl)
/-! ends -/
theorem k_iret (hX : Cx l R cc own nL (some .int) G ad X) {v : Int32} (hdg : decode cc pc = .ok (.ireturn, 1)) : KF l R nL G ad E (QP PostI G ad E) X (some (v, M)) L pc [.int v] M := by
  intro r hr H locs ls hP hS hl
  cases hr
  exact W.iret hX.1 hX.2.1 hX.2.2.2.2.2.2.2.1 (fun t ht _ => ⟨⟨v, (), rfl, rfl, by show va_P _ _ _ t.heap; rw [ht]; exact hP⟩, hS.F ht⟩) hS.2.2 hdg hX.2.2.2.2.2.2.2.2
theorem k_zret (hX : Cx l R cc own nL (some .boolean) G ad X) {v : Int32} (hdg : decode cc pc = .ok (.ireturn, 1)) : KF l R nL G ad E (QP PostI G ad E) X (mrz v M) L pc [.int v] M := by
  intro r hr H locs ls hP hS hl
  unfold mrz at hr
  split at hr
  next hz =>
    cases hr
    exact W.zret hX.1 hX.2.1 hX.2.2.2.2.2.2.2.1 (narrow_z hz).1 (fun t ht _ => ⟨⟨v, (), rfl, rfl, by show va_P _ _ _ t.heap; rw [ht]; exact hP⟩, hS.F ht⟩) hS.2.2 hdg hX.2.2.2.2.2.2.2.2
  next => cases hr
theorem k_vret (hX : Cx l R cc own nL none G ad X) {v : Int32} (hdg : decode cc pc = .ok (.return_, 1)) : KF l R nL G ad E (QP PostV G ad E) X (some (v, M)) L pc [] M := by
  intro r hr H locs ls hP hS hl
  cases hr
  exact W.vret hX.1 hX.2.1 hX.2.2.2.2.2.2.2.1 (fun t ht _ => ⟨⟨(), rfl, trivial, by show va_P _ _ _ t.heap; rw [ht]; exact hP⟩, hS.F ht⟩) hS.2.2 hdg hX.2.2.2.2.2.2.2.2
theorem k_aret {C : String} (hX : Cx l R cc own nL (some (.object C)) G ad X) {c : Nat} (hc : isWb c = true) (hdg : decode cc pc = .ok (.areturn, 1)) : KF l R nL G ad E (QP PostQ G ad E) X (some (nI c, M)) L pc [.ref (ad c)] M := by
  intro r hr H locs ls hP hS hl
  cases hr
  have h1 := isWb_lt hc
  have h0 : 0 < c := by
    unfold isWb at hc
    simp only [Bool.and_eq_true, Nat.ble_eq] at hc
    omega
  have hq : nqv ad (nI c) = some (ad c) := by
    unfold nqv
    rw [if_neg (nI_ne0 h0 (by omega)), nI_clamp (by omega)]
  exact W.aret hX.1 hX.2.1 hX.2.2.2.2.2.2.2.1 (Or.inl ⟨C, rfl⟩) (Or.inr ⟨_, rfl⟩) (fun t ht _ => ⟨⟨some (ad c), (), rfl, hq.symm, by show va_P _ _ _ t.heap; rw [ht]; exact hP⟩, hS.F ht⟩) hS.2.2 hdg hX.2.2.2.2.2.2.2.2
theorem k_aretN {C : String} (hX : Cx l R cc own nL (some (.object C)) G ad X) (hdg : decode cc pc = .ok (.areturn, 1)) : KF l R nL G ad E (QP PostQ G ad E) X (some (0, M)) L pc [.null] M := by
  intro r hr H locs ls hP hS hl
  cases hr
  exact W.aret hX.1 hX.2.1 hX.2.2.2.2.2.2.2.1 (Or.inl ⟨C, rfl⟩) (Or.inl rfl) (fun t ht _ => ⟨⟨none, (), rfl, rfl, by show va_P _ _ _ t.heap; rw [ht]; exact hP⟩, hS.F ht⟩) hS.2.2 hdg hX.2.2.2.2.2.2.2.2
end KROWS2
section KROWS3
variable {l : Launch} {R : Room} {nL : Nat} {G : GL} {ad : Nat → Nat} {E : Mem → Nat → va_E} {Qc : CT → Rv → State → Prop} {X : CT} {o : Option Rv} {L L' : List (Option Value)} {pc : Nat} {stk : List Value} {M : Mem} {cc : ByteArray} {own : String} {ret : Option FieldType}
/-- arraycopy between rows of ints -/
theorem k_copy (hX : Cx l R cc own nL ret G ad X) {a na b nb index : Nat} {sp dp n : Int32} {F : Mem → Option Rv} (hLoc : LocE E) (hA : isA G E a na 0) (hB : isA G E b nb 0) (hw : Cond.methodLink own index arraycopyName ∈ BIG) (hnat : Cond.native arraycopyName ∈ BIG) (hst : Cond.static arraycopyName ∈ BIG) (hini : Cond.initialized "java/lang/System" ∈ BIG) (hR1 : 1 ≤ R.frames) (hR2 : (stk.map fun v => v.category).sum + (nativeFrameWords "java/lang/System" "arraycopy" 5 + 11) ≤ R.locals) (hdg : decode cc pc = .ok (.invokestatic index, 3)) (kk : ∀ M', KF l R nL G ad E Qc X (F M') L (pc + 3) stk M') : KF l R nL G ad E Qc X ((mcp M a na b nb sp dp n).bind F) L pc (.int n :: .int dp :: .ref (ad b) :: .int sp :: .ref (ad a) :: stk) M := by
  intro r hr H locs ls hP hS hl
  obtain ⟨M', h1, h2⟩ := bind_some hr
  unfold mcp at h1
  split at h1
  next => cases h1
  next hin =>
    cases h1
    have hws : (wl ad (E M)).set b (ad b, .inl (G.2.1 0, nb, .inl (va_cpy (M a) (M b) sp.toNatClampNeg dp.toNatClampNeg n.toNatClampNeg))) = wl ad (E (fun c => if c = b then va_cpy (M a) (M b) sp.toNatClampNeg dp.toNatClampNeg n.toNatClampNeg else M c)) := by
      refine wl_set ?_ (fun j hj => hLoc _ _ _ (if_neg hj))
      rw [hB.2, if_pos rfl]
    refine va_copyi hX.1 hX.2.1 (hX.2.2.1.trans hl.1.symm) hX.2.2.2.1 (hX.2.2.2.2.1 _ hw) (hX.2.2.2.2.1 _ hnat) (hX.2.2.2.2.1 _ hst) (hX.2.2.2.2.1 _ hini) hX.2.2.2.2.2.1.1 hP (AdOK.D hX.2.2.2.2.2.2.1 (E M)) hS a b 0 0 (c0 := G.2.1 0) (c1 := G.2.1 0) (n0 := na) (n1 := nb) (f := M a) (g := M b) (ty := .int) (by rw [wl_at hA.1, hA.2]) (by rw [wl_at hB.1, hB.2]) rfl rfl rfl (fun q => hin (Or.inl q)) (fun q => hin (Or.inr (Or.inl q))) (fun q => hin (Or.inr (Or.inr (Or.inl q)))) ?_ ?_ (fun _ _ => rfl) hR1 hR2 hdg (fun H1 locs1 hP1 _ hS1 => kk _ r h2 H1 locs1 ls (hws ▸ hP1) hS1 hl)
    · exact Nat.not_lt.mp (fun q => hin (Or.inr (Or.inr (Or.inr (Or.inl q)))))
    · exact Nat.not_lt.mp (fun q => hin (Or.inr (Or.inr (Or.inr (Or.inr q)))))
/-! rows of references -/
theorem k_aldS (hX : Cx l R cc own nL ret G ad X) {c n : Nat} {i : Int32} {F : Nat → Option Rv} (hA : isQ G E c n 3 (fun m j => some (ad (m j).toNatClampNeg))) (hdg : decode cc pc = .ok (.aaload, 1)) (kk : ∀ d, isSb d = true → KF l R nL G ad E Qc X (F d) L (pc + 1) (.ref (ad d) :: stk) M) : KF l R nL G ad E Qc X ((mrd M c n i).bind fun v => (mlS v).bind F) L pc (.int i :: .ref (ad c) :: stk) M := by
  intro r hr H locs ls hP hS hl
  obtain ⟨v, h1, h2⟩ := bind_some hr
  obtain ⟨d, h3, h4⟩ := bind_some h2
  unfold mrd at h1
  split at h1
  next => cases h1
  next hin =>
    cases h1
    unfold mlS at h3
    split at h3
    next hz =>
      cases h3
      exact va_aldq hX.1 hX.2.1 hX.2.2.2.2.2.1.1 hP c 3 (cA := G.2.1 3) (n := n) (f := fun j => some (ad (M c j).toNatClampNeg)) (by rw [wl_at hA.1, hA.2]) rfl hin hdg (kk _ hz r h4 H locs ls hP hS hl)
    next => cases h3
theorem k_aldW (hX : Cx l R cc own nL ret G ad X) {c : Nat} {i : Int32} {F : Nat → Option Rv} (hA : isQ G E (c + 2) 8 4 (fun _ j => some (ad (c + 3 + 3 * j)))) (hdg : decode cc pc = .ok (.aaload, 1)) (kk : ∀ d, mlW c i = some d → KF l R nL G ad E Qc X (F d) L (pc + 1) (.ref (ad d) :: stk) M) : KF l R nL G ad E Qc X ((mlW c i).bind F) L pc (.int i :: .ref (ad (c + 2)) :: stk) M := by
  intro r hr H locs ls hP hS hl
  obtain ⟨d, h1, h2⟩ := bind_some hr
  have h3 := h1
  unfold mlW at h1
  split at h1
  next => cases h1
  next hin =>
    cases h1
    exact va_aldq hX.1 hX.2.1 hX.2.2.2.2.2.1.1 hP (c + 2) 4 (cA := G.2.1 4) (n := 8) (f := fun j => some (ad (c + 3 + 3 * j))) (by rw [wl_at hA.1, hA.2]) rfl hin hdg (kk _ h3 r h2 H locs ls hP hS hl)
theorem k_astS (hX : Cx l R cc own nL ret G ad X) {c n d : Nat} {i : Int32} {F : Mem → Option Rv} {fs : (Nat → Int32) → List Value} (hLoc : LocE E) (hA : isQ G E c n 3 (fun m j => some (ad (m j).toNatClampNeg))) (hd : isSb d = true) (hO : isO E d 4 fs) (hdg : decode cc pc = .ok (.aastore, 1)) (kk : ∀ M', KF l R nL G ad E Qc X (F M') L (pc + 1) stk M') : KF l R nL G ad E Qc X ((mst M c n i (nI d)).bind F) L pc (.ref (ad d) :: .int i :: .ref (ad c) :: stk) M := by
  intro r hr H locs ls hP hS hl
  obtain ⟨M', h1, h2⟩ := bind_some hr
  unfold mst at h1
  split at h1
  next => cases h1
  next hin =>
    cases h1
    have hd1 := isSb_lt hd
    have hws : (wl ad (E M)).set c (ad c, .inl (G.2.1 3, n, .inr (.inr (.inr (.inr (va_up (fun j => some (ad (M c j).toNatClampNeg)) i.toNatClampNeg (some (ad d)))))))) = wl ad (E (mwr M c i.toNatClampNeg (nI d))) := by
      refine wl_set ?_ (fun j hj => hLoc _ _ _ (mwr_ne M _ _ hj))
      rw [hA.2, mwr_eq]
      have hf : (fun j => some (ad (upd (M c) i.toNatClampNeg (nI d) j).toNatClampNeg)) = va_up (fun j => some (ad (M c j).toNatClampNeg)) i.toNatClampNeg (some (ad d)) := by
        funext j
        unfold va_up upd
        by_cases hj : j = i.toNatClampNeg
        · rw [if_pos hj, if_pos hj, nI_clamp (by omega)]
        · rw [if_neg hj, if_neg hj]
      rw [← hf]
    refine va_astq hX.1 hX.2.1 hX.2.2.2.2.2.1.1 hP (AdOK.D hX.2.2.2.2.2.2.1 (E M)) hS c 3 d 4 (cA := G.2.1 3) (r := (RX4, TX4, 5)) (n := n) (vs := fs (M d)) (f := fun j => some (ad (M c j).toNatClampNeg)) (by rw [wl_at hA.1, hA.2]) rfl (by rw [wl_at hO.1, hO.2]) rfl hin hdg (fun H1 locs1 hP1 _ hS1 => kk _ r h2 H1 locs1 ls (hws ▸ hP1) hS1 hl)
/-! calls -/
theorem MLk.lk {index : Nat} {y : MethodName} {cy : ByteArray} {my : Nat} {ry : Option FieldType} {n : Nat} (hX : Cx l R cc own nL ret G ad X) (h : MLk own index y cy my ry n) {fr lo : Nat} (hR : fr + 1 ≤ R.frames ∧ 8 + (my + 11) + lo ≤ R.locals) :
    CallB R X.2.2.1 X.2.2.2.2.1 own index y cy my ry (Cond.code y cy my ry :: BIG) { frames := fr, cells := 0, slots := 0, locals := lo } 0 0 n ∨ ∃ host, va_CN R X.2.2.1 X.2.2.2.2.1 own index y host cy my ry (Cond.code y cy my ry :: BIG) { frames := fr, cells := 0, slots := 0, locals := lo } 0 0 n := by
  obtain ⟨h1, h2, h3, h4⟩ := h
  rcases h1 with h1 | ⟨host, h1⟩
  · exact Or.inl (callB_of (Ts := BIG) (ws' := BIG) n hX.2.2.2.2.1 (good_code h2) rfl rfl rfl (hX.2.2.2.2.1 _ h3) (hX.2.2.2.2.1 _ h1) h4 hR)
  · exact Or.inr ⟨host, va_cnB (Ts := BIG) (ws' := BIG) n hX.2.2.2.2.1 (good_code h2) rfl rfl rfl (hX.2.2.2.2.2.1.2.1.2 _ h1) (hX.2.2.2.2.1 _ h3) h4 hR⟩
theorem Pw.at (hX : Cx l R cc own nL ret G ad X) {H : Heap} {locs : List Loc} (hP : va_P G.1 vwCl (wl ad (E M)) H) (hS : va_S G.2.2.1 X.2.2.1.heap H locs) (U : State) (hU : U.heap = H) (hW : X.2.2.1.WarmedH U.vm) (vs : List Value) : va_Pc vs (Pw G ad E M) vs.toArray U := by
  obtain ⟨hK, hN, hZ⟩ := hX.2.2.2.2.2.1
  refine ⟨rfl, by rw [hU]; exact hP, va_K.moved hW.alike hK, hN.warm hW, ?_⟩
  rw [hU]
  exact (hZ.kept (fun a h1 h2 => hS.2.1 a h1 h2)).moved hW.alike
theorem run_V {index : Nat} {y : MethodName} {cy : ByteArray} {my : Nat} {ry : Option FieldType} {n fr lo ci c : Nat} {T : u_T} {N : Nat} {Po : GL → (Nat → Nat) → (Mem → Nat → va_E) → Rv → Array Value → State → Outcome → State → Prop} {r : Rv} {fs : (Nat → Int32) → List Value} {vs : List Value} {H : Heap} {locs : List Loc} {ls : Array Slot} {stk0 : List Value}
    (hX : Cx l R cc own nL ret G ad X) (hM : Ct Po l G ad E y cy my ry fr lo (.ref (ad c) :: vs) M r) (hO : isO E c ci fs) (hcl : vwCl[ci]? = some (y.cls, T, N)) (hw : MLv own index y cy my ry n) (hR : fr + 1 ≤ R.frames ∧ 8 + (my + 11) + lo ≤ R.locals) (hn : vs.length = n) (hst : stk0 = vs.reverse ++ .ref (ad c) :: stk) (hcat : (stk.map fun v => v.category).sum ≤ 8) (hdg : decode cc pc = .ok (.invokevirtual index, 3)) (hP : va_P G.1 vwCl (wl ad (E M)) H) (hS : va_S G.2.2.1 X.2.2.1.heap H locs) (hl : lvh ls nL L) :
    va_Run X.1 l X.2.1 R X.2.2.1 X.2.2.2.1 X.2.2.2.2.1 X.2.2.2.2.2.1 X.2.2.2.2.2.2.1 X.2.2.2.2.2.2.2 H locs 0 0 0 0 (F0 X.2.2.2.1 pc ls stk0) stk (Po G ad E r (Value.ref (ad c) :: vs).toArray) G.2.2.1 := by
  have hrec := va_recv (q := (y.cls, T, N)) hX.2.2.2.2.2.1.1 hP hcl (q0 := c) (a := ad c) (fs := fs (M c)) (by rw [wl_at hO.1, hO.2])
  rcases hw.1.lk hX hR with hc | ⟨host, hc⟩
  · exact va_runV (nL := nL) ⟨hX.1, hX.2.1, hX.2.2.1, hX.2.2.2.1, hX.2.2.2.2.1⟩ hM ⟨hc, hX.2.2.2.2.1 _ hw.2.1, hX.2.2.2.2.1 _ hw.2.2⟩ ⟨Pw.blind _, hrec, fun U hU hW => Pw.at hX hP hS U hU hW _⟩ rfl hn hl.1 hst (lv_room hcat) hdg ⟨Nat.zero_le _, Nat.zero_le _⟩
  · exact va_runVN (nL := nL) ⟨hX.1, hX.2.1, hX.2.2.1, hX.2.2.2.1, hX.2.2.2.2.1⟩ hM ⟨hc, hX.2.2.2.2.1 _ hw.2.1, hX.2.2.2.2.1 _ hw.2.2⟩ ⟨Pw.blind _, hrec, fun U hU hW => Pw.at hX hP hS U hU hW _⟩ rfl hn hl.1 hst (lv_room hcat) hdg ⟨Nat.zero_le _, Nat.zero_le _⟩
theorem run_S {index : Nat} {y : MethodName} {cy : ByteArray} {my : Nat} {ry : Option FieldType} {n fr lo : Nat} {Po : GL → (Nat → Nat) → (Mem → Nat → va_E) → Rv → Array Value → State → Outcome → State → Prop} {r : Rv} {vs : List Value} {H : Heap} {locs : List Loc} {ls : Array Slot} {stk0 : List Value}
    (hX : Cx l R cc own nL ret G ad X) (hM : Ct Po l G ad E y cy my ry fr lo vs M r) (hw : MLs own index y cy my ry n) (hR : fr + 1 ≤ R.frames ∧ 8 + (my + 11) + lo ≤ R.locals) (hn : vs.length = n) (hst : stk0 = vs.reverse ++ stk) (hcat : (stk.map fun v => v.category).sum ≤ 8) (hdg : decode cc pc = .ok (.invokestatic index, 3)) (hP : va_P G.1 vwCl (wl ad (E M)) H) (hS : va_S G.2.2.1 X.2.2.1.heap H locs) (hl : lvh ls nL L) :
    va_Run X.1 l X.2.1 R X.2.2.1 X.2.2.2.1 X.2.2.2.2.1 X.2.2.2.2.2.1 X.2.2.2.2.2.2.1 X.2.2.2.2.2.2.2 H locs 0 0 0 0 (F0 X.2.2.2.1 pc ls stk0) stk (Po G ad E r vs.toArray) G.2.2.1 := by
  rcases hw.1.lk hX hR with hc | ⟨host, hc⟩
  · exact va_runS (nL := nL) ⟨hX.1, hX.2.1, hX.2.2.1, hX.2.2.2.1, hX.2.2.2.2.1⟩ hM ⟨hc, hX.2.2.2.2.1 _ hw.2⟩ ⟨Pw.blind _, fun U hU hW => Pw.at hX hP hS U hU hW _⟩ rfl hn hl.1 hst (lv_room hcat) hdg ⟨Nat.zero_le _, Nat.zero_le _⟩
  · exact va_runSN (nL := nL) ⟨hX.1, hX.2.1, hX.2.2.1, hX.2.2.2.1, hX.2.2.2.2.1⟩ hM ⟨hc, hX.2.2.2.2.1 _ hw.2, trivial⟩ ⟨Pw.blind _, fun U hU hW => Pw.at hX hP hS U hU hW _⟩ rfl hn hl.1 hst (lv_room hcat) hdg ⟨Nat.zero_le _, Nat.zero_le _⟩
theorem end_I {r : Rv} {a : Array Value} {H : Heap} {locs : List Loc} {ls : Array Slot} {Q : State → Prop} {stk0 : List Value} (hr : va_Run X.1 l X.2.1 R X.2.2.1 X.2.2.2.1 X.2.2.2.2.1 X.2.2.2.2.2.1 X.2.2.2.2.2.2.1 X.2.2.2.2.2.2.2 H locs 0 0 0 0 (F0 X.2.2.2.1 pc ls stk0) stk (PostI G ad E r a) G.2.2.1) (hS : va_S G.2.2.1 X.2.2.1.heap H locs)
    (kk : ∀ (H1 : Heap) (locs1 : List Loc), va_P G.1 vwCl (wl ad (E r.2)) H1 → va_S G.2.2.1 X.2.2.1.heap H1 locs1 → W X.1 l X.2.1 R X.2.2.1 X.2.2.2.1 X.2.2.2.2.1 X.2.2.2.2.2.1 X.2.2.2.2.2.2.1 X.2.2.2.2.2.2.2 H1 locs1 0 0 Q (F0 X.2.2.2.1 (pc + 3) ls (.int r.1 :: stk))) : W X.1 l X.2.1 R X.2.2.1 X.2.2.2.1 X.2.2.2.2.1 X.2.2.2.2.2.1 X.2.2.2.2.2.2.1 X.2.2.2.2.2.2.2 H locs 0 0 Q (F0 X.2.2.2.1 pc ls stk0) := by
  refine va_calli hr hS (fun q _ h => h) (fun q h => h) (fun v u t H1 locs1 ht _ hv hB _ _ hS1 => ?_)
  subst hv
  exact kk H1 locs1 (by rw [← ht]; exact hB) hS1
theorem end_V {r : Rv} {a : Array Value} {H : Heap} {locs : List Loc} {ls : Array Slot} {Q : State → Prop} {stk0 : List Value} (hr : va_Run X.1 l X.2.1 R X.2.2.1 X.2.2.2.1 X.2.2.2.2.1 X.2.2.2.2.2.1 X.2.2.2.2.2.2.1 X.2.2.2.2.2.2.2 H locs 0 0 0 0 (F0 X.2.2.2.1 pc ls stk0) stk (PostV G ad E r a) G.2.2.1) (hS : va_S G.2.2.1 X.2.2.1.heap H locs)
    (kk : ∀ (H1 : Heap) (locs1 : List Loc), va_P G.1 vwCl (wl ad (E r.2)) H1 → va_S G.2.2.1 X.2.2.1.heap H1 locs1 → W X.1 l X.2.1 R X.2.2.1 X.2.2.2.1 X.2.2.2.2.1 X.2.2.2.2.2.1 X.2.2.2.2.2.2.1 X.2.2.2.2.2.2.2 H1 locs1 0 0 Q (F0 X.2.2.2.1 (pc + 3) ls stk)) : W X.1 l X.2.1 R X.2.2.1 X.2.2.2.1 X.2.2.2.2.1 X.2.2.2.2.2.1 X.2.2.2.2.2.2.1 X.2.2.2.2.2.2.2 H locs 0 0 Q (F0 X.2.2.2.1 pc ls stk0) :=
  va_callv hr hS (fun q _ h => h) (fun q h => h) (fun u t H1 locs1 ht _ _ hB _ _ hS1 => kk H1 locs1 (by rw [← ht]; exact hB) hS1)
theorem end_Q {r : Rv} {a : Array Value} {H : Heap} {locs : List Loc} {ls : Array Slot} {Q : State → Prop} {stk0 : List Value} (hr : va_Run X.1 l X.2.1 R X.2.2.1 X.2.2.2.1 X.2.2.2.2.1 X.2.2.2.2.2.1 X.2.2.2.2.2.2.1 X.2.2.2.2.2.2.2 H locs 0 0 0 0 (F0 X.2.2.2.1 pc ls stk0) stk (PostQ G ad E r a) G.2.2.1) (hS : va_S G.2.2.1 X.2.2.1.heap H locs)
    (kk : ∀ (H1 : Heap) (locs1 : List Loc), va_P G.1 vwCl (wl ad (E r.2)) H1 → va_S G.2.2.1 X.2.2.1.heap H1 locs1 → W X.1 l X.2.1 R X.2.2.1 X.2.2.2.1 X.2.2.2.2.1 X.2.2.2.2.2.1 X.2.2.2.2.2.2.1 X.2.2.2.2.2.2.2 H1 locs1 0 0 Q (F0 X.2.2.2.1 (pc + 3) ls (va_rf (nqv ad r.1) :: stk))) : W X.1 l X.2.1 R X.2.2.1 X.2.2.2.1 X.2.2.2.2.1 X.2.2.2.2.2.1 X.2.2.2.2.2.2.1 X.2.2.2.2.2.2.2 H locs 0 0 Q (F0 X.2.2.2.1 pc ls stk0) := by
  refine va_callq hr hS (fun q _ h => h) (fun q h => h) (fun v u t H1 locs1 ht _ hv hB _ _ hS1 => ?_)
  subst hv
  exact kk H1 locs1 (by rw [← ht]; exact hB) hS1
theorem k_callVI {f : Option Rv} {F : Rv → Option Rv} {index : Nat} {y : MethodName} {cy : ByteArray} {my : Nat} {ry : Option FieldType} {n fr lo ci c : Nat} {T : u_T} {N : Nat} {fs : (Nat → Int32) → List Value} {vs stk0 : List Value} (hX : Cx l R cc own nL ret G ad X) (hM : ∀ r, f = some r → Ct PostI l G ad E y cy my ry fr lo (.ref (ad c) :: vs) M r) (hO : isO E c ci fs) (hcl : vwCl[ci]? = some (y.cls, T, N)) (hw : MLv own index y cy my ry n) (hR : fr + 1 ≤ R.frames ∧ 8 + (my + 11) + lo ≤ R.locals) (hn : vs.length = n) (hst : stk0 = vs.reverse ++ .ref (ad c) :: stk) (hcat : (stk.map fun v => v.category).sum ≤ 8) (hdg : decode cc pc = .ok (.invokevirtual index, 3)) (kk : ∀ r, KF l R nL G ad E Qc X (F r) L (pc + 3) (.int r.1 :: stk) r.2) : KF l R nL G ad E Qc X (f.bind F) L pc stk0 M := by
  intro r hr H locs ls hP hS hl
  obtain ⟨q, h1, h2⟩ := bind_some hr
  exact end_I (run_V hX (hM q h1) hO hcl hw hR hn hst hcat hdg hP hS hl) hS (fun H1 locs1 hP1 hS1 => kk q r h2 H1 locs1 ls hP1 hS1 hl)
theorem k_callVV {f : Option Rv} {F : Rv → Option Rv} {index : Nat} {y : MethodName} {cy : ByteArray} {my : Nat} {ry : Option FieldType} {n fr lo ci c : Nat} {T : u_T} {N : Nat} {fs : (Nat → Int32) → List Value} {vs stk0 : List Value} (hX : Cx l R cc own nL ret G ad X) (hM : ∀ r, f = some r → Ct PostV l G ad E y cy my ry fr lo (.ref (ad c) :: vs) M r) (hO : isO E c ci fs) (hcl : vwCl[ci]? = some (y.cls, T, N)) (hw : MLv own index y cy my ry n) (hR : fr + 1 ≤ R.frames ∧ 8 + (my + 11) + lo ≤ R.locals) (hn : vs.length = n) (hst : stk0 = vs.reverse ++ .ref (ad c) :: stk) (hcat : (stk.map fun v => v.category).sum ≤ 8) (hdg : decode cc pc = .ok (.invokevirtual index, 3)) (kk : ∀ r : Rv, KF l R nL G ad E Qc X (F r) L (pc + 3) stk r.2) : KF l R nL G ad E Qc X (f.bind F) L pc stk0 M := by
  intro r hr H locs ls hP hS hl
  obtain ⟨q, h1, h2⟩ := bind_some hr
  exact end_V (run_V hX (hM q h1) hO hcl hw hR hn hst hcat hdg hP hS hl) hS (fun H1 locs1 hP1 hS1 => kk q r h2 H1 locs1 ls hP1 hS1 hl)
theorem k_callVQ {f : Option Rv} {F : Rv → Option Rv} {index : Nat} {y : MethodName} {cy : ByteArray} {my : Nat} {ry : Option FieldType} {n fr lo ci c : Nat} {T : u_T} {N : Nat} {fs : (Nat → Int32) → List Value} {vs stk0 : List Value} (hX : Cx l R cc own nL ret G ad X) (hM : ∀ r, f = some r → Ct PostQ l G ad E y cy my ry fr lo (.ref (ad c) :: vs) M r) (hO : isO E c ci fs) (hcl : vwCl[ci]? = some (y.cls, T, N)) (hw : MLv own index y cy my ry n) (hR : fr + 1 ≤ R.frames ∧ 8 + (my + 11) + lo ≤ R.locals) (hn : vs.length = n) (hst : stk0 = vs.reverse ++ .ref (ad c) :: stk) (hcat : (stk.map fun v => v.category).sum ≤ 8) (hdg : decode cc pc = .ok (.invokevirtual index, 3)) (kk : ∀ r : Rv, KF l R nL G ad E Qc X (F r) L (pc + 3) (va_rf (nqv ad r.1) :: stk) r.2) : KF l R nL G ad E Qc X (f.bind F) L pc stk0 M := by
  intro r hr H locs ls hP hS hl
  obtain ⟨q, h1, h2⟩ := bind_some hr
  exact end_Q (run_V hX (hM q h1) hO hcl hw hR hn hst hcat hdg hP hS hl) hS (fun H1 locs1 hP1 hS1 => kk q r h2 H1 locs1 ls hP1 hS1 hl)
theorem k_callSI {f : Option Rv} {F : Rv → Option Rv} {index : Nat} {y : MethodName} {cy : ByteArray} {my : Nat} {ry : Option FieldType} {n fr lo : Nat} {vs stk0 : List Value} (hX : Cx l R cc own nL ret G ad X) (hM : ∀ r, f = some r → Ct PostI l G ad E y cy my ry fr lo vs M r) (hw : MLs own index y cy my ry n) (hR : fr + 1 ≤ R.frames ∧ 8 + (my + 11) + lo ≤ R.locals) (hn : vs.length = n) (hst : stk0 = vs.reverse ++ stk) (hcat : (stk.map fun v => v.category).sum ≤ 8) (hdg : decode cc pc = .ok (.invokestatic index, 3)) (kk : ∀ r : Rv, KF l R nL G ad E Qc X (F r) L (pc + 3) (.int r.1 :: stk) r.2) : KF l R nL G ad E Qc X (f.bind F) L pc stk0 M := by
  intro r hr H locs ls hP hS hl
  obtain ⟨q, h1, h2⟩ := bind_some hr
  exact end_I (run_S hX (hM q h1) hw hR hn hst hcat hdg hP hS hl) hS (fun H1 locs1 hP1 hS1 => kk q r h2 H1 locs1 ls hP1 hS1 hl)
/-! a reference that may be null -/
theorem k_ifnonnullQ (hX : Cx l R cc own nL ret G ad X) {A1 A2 : Option Rv} {v : Int32} {off : Int} {tgt : Nat} (hdg : decode cc pc = .ok (.ifnonnull off, 3)) (ht : (pc : Int) + off = (tgt : Int)) (kt : ¬ v = 0 → KF l R nL G ad E Qc X A2 L tgt stk M) (kf : v = 0 → KF l R nL G ad E Qc X A1 L (pc + 3) stk M) : KF l R nL G ad E Qc X (if v = 0 then A1 else A2) L pc (va_rf (nqv ad v) :: stk) M := by
  intro r hr H locs ls hP hS hl
  unfold nqv
  by_cases hv : v = 0
  · rw [if_pos hv] at hr ⊢
    exact lv_ifnonnullN hX.1 hX.2.1 hdg (kf hv r hr H locs ls hP hS hl)
  · rw [if_neg hv] at hr ⊢
    exact lv_ifnonnull hX.1 hX.2.1 hdg ht (kt hv r hr H locs ls hP hS hl)
theorem k_ifnullQ (hX : Cx l R cc own nL ret G ad X) {A1 A2 : Option Rv} {v : Int32} {off : Int} {tgt : Nat} (hdg : decode cc pc = .ok (.ifnull off, 3)) (ht : (pc : Int) + off = (tgt : Int)) (kt : v = 0 → KF l R nL G ad E Qc X A1 L tgt stk M) (kf : ¬ v = 0 → KF l R nL G ad E Qc X A2 L (pc + 3) stk M) : KF l R nL G ad E Qc X (if v = 0 then A1 else A2) L pc (va_rf (nqv ad v) :: stk) M := by
  intro r hr H locs ls hP hS hl
  unfold nqv
  by_cases hv : v = 0
  · rw [if_pos hv] at hr ⊢
    exact lv_ifnullN hX.1 hX.2.1 hdg ht (kt hv r hr H locs ls hP hS hl)
  · rw [if_neg hv] at hr ⊢
    exact lv_ifnull hX.1 hX.2.1 hdg (kf hv r hr H locs ls hP hS hl)
theorem nqv_some {r : Int32} {d : Nat} (h : maW r = some d) : isWb d = true ∧ va_rf (nqv ad r) = .ref (ad d) := by
  unfold maW at h
  split at h
  next hz =>
    cases h
    refine ⟨hz, ?_⟩
    have h0 : ¬ r = 0 := by
      intro h0
      subst h0
      exact absurd hz (by decide)
    unfold nqv
    rw [if_neg h0]
    rfl
  next => cases h
/-- a reference that may be null is read out of a variable, and isn't null -/
theorem k_aloadW {i : Nat} {v : Int32} {F : Nat → Option Rv} (hL : L[i]? = some (some (va_rf (nqv ad v)))) (kk : ∀ d, isWb d = true → KF l R nL G ad E Qc X (F d) (L.set i (some (.ref (ad d)))) pc stk M) : KF l R nL G ad E Qc X ((maW v).bind F) L pc stk M := by
  intro r hr H locs ls hP hS hl
  obtain ⟨d, h1, h2⟩ := bind_some hr
  obtain ⟨h3, h4⟩ := nqv_some (ad := ad) h1
  refine kk d h3 r h2 H locs ls hP hS ⟨hl.1, hl.2.1, fun j w hj => hl.2.2 j w ?_⟩
  by_cases hji : i = j
  · subst hji
    rw [List.getElem?_set_self (List.getElem?_eq_some_iff.mp hL).1] at hj
    cases hj
    rw [hL, h4]
  · rw [List.getElem?_set_ne hji] at hj
    exact hj
theorem k_aload_nQ (hX : Cx l R cc own nL ret G ad X) {k : Fin 4} {i : Nat} {v : Int32} (hi : (k : Nat) = i) (hL : L[i]? = some (some (va_rf (nqv ad v)))) (hdg : decode cc pc = .ok (.aload_n k, 1)) (kk : KF l R nL G ad E Qc X o L (pc + 1) (va_rf (nqv ad v) :: stk) M) : KF l R nL G ad E Qc X o L pc stk M := by
  refine KF.step (fun H locs ls Q hP hS hl h => ?_) kk
  cases hq : nqv ad v with
  | none =>
    rw [hq] at h hL
    exact lv_aload_nN hX.1 hX.2.1 hdg hi (hl.2.2 _ _ hL).2 h
  | some a =>
    rw [hq] at h hL
    exact lv_aload_n hX.1 hX.2.1 hdg hi (hl.2.2 _ _ hL).2 h
theorem k_aloadQ (hX : Cx l R cc own nL ret G ad X) {i : Nat} {v : Int32} (hL : L[i]? = some (some (va_rf (nqv ad v)))) (hdg : decode cc pc = .ok (.aload i, 2)) (kk : KF l R nL G ad E Qc X o L (pc + 2) (va_rf (nqv ad v) :: stk) M) : KF l R nL G ad E Qc X o L pc stk M := by
  refine KF.step (fun H locs ls Q hP hS hl h => ?_) kk
  cases hq : nqv ad v with
  | none =>
    rw [hq] at h hL
    exact lv_aloadN hX.1 hX.2.1 hdg (hl.2.2 _ _ hL).2 h
  | some a =>
    rw [hq] at h hL
    exact lv_aload hX.1 hX.2.1 hdg (hl.2.2 _ _ hL).2 h
theorem k_astore_nQ (hX : Cx l R cc own nL ret G ad X) {k : Fin 4} {i : Nat} {v : Int32} (hi : (k : Nat) = i) (hn : i < nL) (hL : L.set i (some (va_rf (nqv ad v))) = L') (hdg : decode cc pc = .ok (.astore_n k, 1)) (kk : KF l R nL G ad E Qc X o L' (pc + 1) stk M) : KF l R nL G ad E Qc X o L pc (va_rf (nqv ad v) :: stk) M := by
  intro r hr H locs ls hP hS hl
  cases hq : nqv ad v with
  | none =>
    rw [hq] at hL
    exact lv_astore_nN (lv := lprs L) hX.1 hX.2.1 hdg hi hl.has hn rfl (fun ls' hl' => kk r hr H locs ls' hP hS (hl.set rfl hL hl'))
  | some a =>
    rw [hq] at hL
    exact lv_astore_n (lv := lprs L) hX.1 hX.2.1 hdg hi hl.has hn rfl (fun ls' hl' => kk r hr H locs ls' hP hS (hl.set rfl hL hl'))
theorem k_astoreQ (hX : Cx l R cc own nL ret G ad X) {i : Nat} {v : Int32} (hn : i < nL) (hL : L.set i (some (va_rf (nqv ad v))) = L') (hdg : decode cc pc = .ok (.astore i, 2)) (kk : KF l R nL G ad E Qc X o L' (pc + 2) stk M) : KF l R nL G ad E Qc X o L pc (va_rf (nqv ad v) :: stk) M := by
  intro r hr H locs ls hP hS hl
  cases hq : nqv ad v with
  | none =>
    rw [hq] at hL
    exact lv_astoreN (lv := lprs L) hX.1 hX.2.1 hdg hl.has hn rfl (fun ls' hl' => kk r hr H locs ls' hP hS (hl.set rfl hL hl'))
  | some a =>
    rw [hq] at hL
    exact lv_astore (lv := lprs L) hX.1 hX.2.1 hdg hl.has hn rfl (fun ls' hl' => kk r hr H locs ls' hP hS (hl.set rfl hL hl'))
/-- a switch over a range: the program is a chain of questions -/
theorem k_tabIn (hX : Cx l R cc own nL ret G ad X) {dflt lo hi : Int} {offs : Array Int} {len : Nat} {x v : Int32} {off : Int} {tgt : Nat} (hv : x = v) (hdg : decode cc pc = .ok (.tableswitch dflt lo hi offs, len)) (h1 : ¬ v.toInt < lo) (h2 : ¬ hi < v.toInt) (ho : offs[(v.toInt - lo).toNat]? = some off) (ht : (pc : Int) + off = (tgt : Int)) (kk : KF l R nL G ad E Qc X o L tgt stk M) : KF l R nL G ad E Qc X o L pc (.int x :: stk) M := by
  subst hv
  exact KF.step (fun H locs ls Q hP hS hl h => lv_tableIn hX.1 hX.2.1 hdg h1 h2 ho ht h) kk
theorem k_tabOut (hX : Cx l R cc own nL ret G ad X) {dflt lo hi : Int} {offs : Array Int} {len : Nat} {x : Int32} {tgt : Nat} (hdg : decode cc pc = .ok (.tableswitch dflt lo hi offs, len)) (h : x.toInt < lo ∨ hi < x.toInt) (ht : (pc : Int) + dflt = (tgt : Int)) (kk : KF l R nL G ad E Qc X o L tgt stk M) : KF l R nL G ad E Qc X o L pc (.int x :: stk) M :=
  KF.step (fun H locs ls Q hP hS hl h' => lv_tableOut hX.1 hX.2.1 hdg h ht h') kk
theorem k_look (hX : Cx l R cc own nL ret G ad X) {dflt : Int} {ps : Array (Int × Int)} {len : Nat} {x : Int32} {off : Int} {tgt : Nat} (hdg : decode cc pc = .ok (.lookupswitch dflt ps, len)) (hp : (ps.toList.zip (ps.toList.drop 1)).all (fun (a, next) => a.1 < next.1) = true) (ho : Op.lookupswitch.offset ps.toList dflt x.toInt = off) (ht : (pc : Int) + off = (tgt : Int)) (kk : KF l R nL G ad E Qc X o L tgt stk M) : KF l R nL G ad E Qc X o L pc (.int x :: stk) M :=
  KF.step (fun H locs ls Q hP hS hl h' => lv_lookup hX.1 hX.2.1 hdg hp ho ht h') kk
theorem KF.ite {A1 A2 : Option Rv} {c : Prop} [Decidable c] (ht : c → KF l R nL G ad E Qc X A1 L pc stk M) (hf : ¬ c → KF l R nL G ad E Qc X A2 L pc stk M) : KF l R nL G ad E Qc X (if c then A1 else A2) L pc stk M := by
  by_cases h : c
  · rw [if_pos h]; exact ht h
  · rw [if_neg h]; exact hf h
end KROWS3
end
section
def oX0 (ad : Nat → Nat) : (Nat → Int32) → List Value := fun m => [.ref (ad 1), .ref (ad 14), .ref (ad 15), .ref (ad 16), .int (m 4), .int (m 5), .int (m 6)]
def oX1 (ad : Nat → Nat) : (Nat → Int32) → List Value := fun m => [.ref (ad 2), .ref (ad 3), .ref (ad 4), .ref (ad 5), .ref (ad 6), .ref (ad 7), .ref (ad 8), .ref (ad 9), .ref (ad 10), .ref (ad 11), .ref (ad 12), .int (m 11), .int (m 12)]
def oX2 (ad : Nat → Nat) : (Nat → Int32) → List Value := fun m => [.ref (ad 1), .ref (ad 13), .ref (ad 23), .ref (ad 24), .ref (ad 25), .int (m 5), .int (m 6), .int (m 7)]
def oX3 (ad : Nat → Nat) : (Nat → Int32) → List Value := fun m => [.ref (ad 1), .ref (ad 18), .ref (ad 19), .ref (ad 20), .ref (ad 21), .int (m 5), .int (m 6)]
def oX4 (ad : Nat → Nat) (c : Nat) : (Nat → Int32) → List Value := fun m => [.int (m 0), .int (m 1), .int (m 2), .ref (ad (c + 1)), .ref (ad (c + 2))]
def oX5 (ad : Nat → Nat) (c : Nat) : (Nat → Int32) → List Value := fun m => [.int (m 0), .int (m 1), .int (m 2), .int (m 3), .int (m 4), .int (m 5), .ref (ad (c + 1)), .ref (ad (c + 2))]
def oX6 (ad : Nat → Nat) : (Nat → Int32) → List Value := fun m => [.ref (ad 1), .ref (ad 13), .ref (ad 17), .ref (ad 22), .ref (ad 26), .ref (ad 27), .ref (ad 28), .ref (ad 29), .ref (ad (m 8).toNatClampNeg), .ref (ad (m 9).toNatClampNeg), .int (m 10), .int (m 11)]
def oX7 (ad : Nat → Nat) : (Nat → Int32) → List Value := fun m => [.ref (ad 219), .ref (ad 220), .ref (ad 221), .ref (ad 222), .ref (ad 223), .ref (ad 224), .ref (ad 225), .ref (ad 226), .ref (ad 227), .ref (ad 228), .ref (ad 229), .int (m 11), .int (m 12), .ref (ad 230), .int (m 14), .int (m 15), .ref (ad 231), .ref (ad 232), .int (m 18), .int (m 19), .ref (ad 233), .int (m 21), .ref (ad 234), .int (m 23), .int (m 24), .int (m 25)]
def dfE : (Nat → Int32) → va_E := fun _ => .inr (0, [])
def SL (ad : Nat → Nat) (tc : Nat → ClassId) : List ((Nat → Int32) → va_E) := [fun m => .inr (6, oX6 ad m),
  fun m => .inr (1, oX1 ad m),
  fun m => .inl (tc 0, 2048, .inl m),
  fun m => .inl (tc 0, 2048, .inl m),
  fun m => .inl (tc 0, 2048, .inl m),
  fun m => .inl (tc 0, 2048, .inl m),
  fun m => .inl (tc 0, 2048, .inl m),
  fun m => .inl (tc 1, 2048, .inl m),
  fun m => .inl (tc 2, 2048, .inl m),
  fun m => .inl (tc 0, 8192, .inl m),
  fun m => .inl (tc 0, 512, .inl m),
  fun m => .inl (tc 0, 2048, .inl m),
  fun m => .inl (tc 0, 2048, .inl m),
  fun m => .inr (0, oX0 ad m),
  fun m => .inl (tc 0, 2048, .inl m),
  fun m => .inl (tc 0, 2048, .inl m),
  fun m => .inl (tc 0, 2, .inl m),
  fun m => .inr (3, oX3 ad m),
  fun m => .inl (tc 0, 120, .inl m),
  fun m => .inl (tc 2, 360, .inl m),
  fun m => .inl (tc 2, 120, .inl m),
  fun m => .inl (tc 0, 120, .inl m),
  fun m => .inr (2, oX2 ad m),
  fun m => .inl (tc 2, 60, .inl m),
  fun m => .inl (tc 0, 60, .inl m),
  fun m => .inl (tc 2, 60, .inl m),
  fun m => .inl (tc 0, 64, .inl m),
  fun m => .inl (tc 0, 64, .inl m),
  fun m => .inl (tc 3, 4, .inr (.inr (.inr (.inr (fun j => some (ad (m j).toNatClampNeg))))))]
def ML (ad : Nat → Nat) (tc : Nat → ClassId) : List ((Nat → Int32) → va_E) := [fun m => .inr (7, oX7 ad m),
  fun m => .inl (tc 0, 31088, .inl m),
  fun m => .inl (tc 0, 124352, .inl m),
  fun m => .inl (tc 0, 31088, .inl m),
  fun m => .inl (tc 0, 8000, .inl m),
  fun m => .inl (tc 0, 8000, .inl m),
  fun m => .inl (tc 0, 8000, .inl m),
  fun m => .inl (tc 0, 8000, .inl m),
  fun m => .inl (tc 0, 8000, .inl m),
  fun m => .inl (tc 0, 8000, .inl m),
  fun m => .inl (tc 1, 8000, .inl m),
  fun m => .inl (tc 0, 90000, .inl m),
  fun m => .inl (tc 0, 4000, .inl m),
  fun m => .inl (tc 0, 64, .inl m),
  fun m => .inl (tc 2, 80, .inl m),
  fun m => .inl (tc 0, 16, .inl m),
  fun m => .inl (tc 2, 60, .inl m)]
def stb (ad : Nat → Nat) (tc : Nat → ClassId) (c : Nat) (m : Nat → Int32) : va_E :=
  if (c - 29) % 27 = 0 then .inr (4, oX4 ad c m) else if (c - 29) % 27 = 1 then .inl (tc 0, 40, .inl m) else if (c - 29) % 27 = 2 then .inl (tc 4, 8, .inr (.inr (.inr (.inr (fun j => some (ad (c + 1 + 3 * j))))))) else if (c - 29) % 27 % 3 = 0 then .inr (5, oX5 ad c m) else if (c - 29) % 27 % 3 = 1 then .inl (tc 0, 8, .inl m) else .inl (tc 0, 960, .inl m)
def EE (ad : Nat → Nat) (tc : Nat → ClassId) (MC MM : Mem) (c : Nat) : va_E := if c < 29 then (SL ad tc).getD c dfE (MC c) else if c < 218 then stb ad tc c (MC c) else (ML ad tc).getD (c - 218) dfE (MM c)
/-- the class's view of the world, the reference's stays; and the other way round -/
def EC (G : GL) (ad : Nat → Nat) (MM : Mem) : Mem → Nat → va_E := fun M c => EE ad G.2.1 M MM c
def EM (G : GL) (ad : Nat → Nat) (MC : Mem) : Mem → Nat → va_E := fun M c => EE ad G.2.1 MC M c
theorem locC {G : GL} {ad : Nat → Nat} {MM : Mem} : LocE (EC G ad MM) := fun M M' c h => by unfold EC EE; rw [h]
theorem locM {G : GL} {ad : Nat → Nat} {MC : Mem} : LocE (EM G ad MC) := fun M M' c h => by unfold EM EE; rw [h]
section WORLD
variable {G : GL} {ad : Nat → Nat} {MM : Mem}
theorem io_0 : isO (EC G ad MM) 0 6 (oX6 ad) := ⟨by decide, fun _ => rfl⟩
theorem io_1 : isO (EC G ad MM) 1 1 (oX1 ad) := ⟨by decide, fun _ => rfl⟩
theorem ia_2 : isA G (EC G ad MM) 2 2048 0 := ⟨by decide, fun _ => rfl⟩
theorem ia_3 : isA G (EC G ad MM) 3 2048 0 := ⟨by decide, fun _ => rfl⟩
theorem ia_4 : isA G (EC G ad MM) 4 2048 0 := ⟨by decide, fun _ => rfl⟩
theorem ia_5 : isA G (EC G ad MM) 5 2048 0 := ⟨by decide, fun _ => rfl⟩
theorem ia_6 : isA G (EC G ad MM) 6 2048 0 := ⟨by decide, fun _ => rfl⟩
theorem ia_7 : isA G (EC G ad MM) 7 2048 1 := ⟨by decide, fun _ => rfl⟩
theorem ia_8 : isA G (EC G ad MM) 8 2048 2 := ⟨by decide, fun _ => rfl⟩
theorem ia_9 : isA G (EC G ad MM) 9 8192 0 := ⟨by decide, fun _ => rfl⟩
theorem ia_10 : isA G (EC G ad MM) 10 512 0 := ⟨by decide, fun _ => rfl⟩
theorem ia_11 : isA G (EC G ad MM) 11 2048 0 := ⟨by decide, fun _ => rfl⟩
theorem ia_12 : isA G (EC G ad MM) 12 2048 0 := ⟨by decide, fun _ => rfl⟩
theorem io_13 : isO (EC G ad MM) 13 0 (oX0 ad) := ⟨by decide, fun _ => rfl⟩
theorem ia_14 : isA G (EC G ad MM) 14 2048 0 := ⟨by decide, fun _ => rfl⟩
theorem ia_15 : isA G (EC G ad MM) 15 2048 0 := ⟨by decide, fun _ => rfl⟩
theorem ia_16 : isA G (EC G ad MM) 16 2 0 := ⟨by decide, fun _ => rfl⟩
theorem io_17 : isO (EC G ad MM) 17 3 (oX3 ad) := ⟨by decide, fun _ => rfl⟩
theorem ia_18 : isA G (EC G ad MM) 18 120 0 := ⟨by decide, fun _ => rfl⟩
theorem ia_19 : isA G (EC G ad MM) 19 360 2 := ⟨by decide, fun _ => rfl⟩
theorem ia_20 : isA G (EC G ad MM) 20 120 2 := ⟨by decide, fun _ => rfl⟩
theorem ia_21 : isA G (EC G ad MM) 21 120 0 := ⟨by decide, fun _ => rfl⟩
theorem io_22 : isO (EC G ad MM) 22 2 (oX2 ad) := ⟨by decide, fun _ => rfl⟩
theorem ia_23 : isA G (EC G ad MM) 23 60 2 := ⟨by decide, fun _ => rfl⟩
theorem ia_24 : isA G (EC G ad MM) 24 60 0 := ⟨by decide, fun _ => rfl⟩
theorem ia_25 : isA G (EC G ad MM) 25 60 2 := ⟨by decide, fun _ => rfl⟩
theorem ia_26 : isA G (EC G ad MM) 26 64 0 := ⟨by decide, fun _ => rfl⟩
theorem ia_27 : isA G (EC G ad MM) 27 64 0 := ⟨by decide, fun _ => rfl⟩
theorem iq_28 : isQ G (EC G ad MM) 28 4 3 (fun m j => some (ad (m j).toNatClampNeg)) := ⟨by decide, fun _ => rfl⟩
theorem io_218 : isO (EM G ad MM) 218 7 (oX7 ad) := ⟨by decide, fun _ => rfl⟩
theorem ia_219 : isA G (EM G ad MM) 219 31088 0 := ⟨by decide, fun _ => rfl⟩
theorem ia_220 : isA G (EM G ad MM) 220 124352 0 := ⟨by decide, fun _ => rfl⟩
theorem ia_221 : isA G (EM G ad MM) 221 31088 0 := ⟨by decide, fun _ => rfl⟩
theorem ia_222 : isA G (EM G ad MM) 222 8000 0 := ⟨by decide, fun _ => rfl⟩
theorem ia_223 : isA G (EM G ad MM) 223 8000 0 := ⟨by decide, fun _ => rfl⟩
theorem ia_224 : isA G (EM G ad MM) 224 8000 0 := ⟨by decide, fun _ => rfl⟩
theorem ia_225 : isA G (EM G ad MM) 225 8000 0 := ⟨by decide, fun _ => rfl⟩
theorem ia_226 : isA G (EM G ad MM) 226 8000 0 := ⟨by decide, fun _ => rfl⟩
theorem ia_227 : isA G (EM G ad MM) 227 8000 0 := ⟨by decide, fun _ => rfl⟩
theorem ia_228 : isA G (EM G ad MM) 228 8000 1 := ⟨by decide, fun _ => rfl⟩
theorem ia_229 : isA G (EM G ad MM) 229 90000 0 := ⟨by decide, fun _ => rfl⟩
theorem ia_230 : isA G (EM G ad MM) 230 4000 0 := ⟨by decide, fun _ => rfl⟩
theorem ia_231 : isA G (EM G ad MM) 231 64 0 := ⟨by decide, fun _ => rfl⟩
theorem ia_232 : isA G (EM G ad MM) 232 80 2 := ⟨by decide, fun _ => rfl⟩
theorem ia_233 : isA G (EM G ad MM) 233 16 0 := ⟨by decide, fun _ => rfl⟩
theorem ia_234 : isA G (EM G ad MM) 234 60 2 := ⟨by decide, fun _ => rfl⟩
theorem isSb_iff {c : Nat} (h : isSb c = true) : 29 ≤ c ∧ c < 218 ∧ (c - 29) % 27 = 0 := by
  unfold isSb at h
  simp only [Bool.and_eq_true] at h
  exact ⟨Nat.ble_eq.mp h.1.1, Nat.blt_eq.mp h.1.2, Nat.beq_eq.mp h.2⟩
theorem isWb_iff {c : Nat} (h : isWb c = true) : 29 ≤ c ∧ c < 218 ∧ 3 ≤ (c - 29) % 27 ∧ (c - 29) % 27 % 3 = 0 := by
  unfold isWb at h
  simp only [Bool.and_eq_true] at h
  exact ⟨Nat.ble_eq.mp h.1.1.1, Nat.blt_eq.mp h.1.1.2, Nat.ble_eq.mp h.1.2, Nat.beq_eq.mp h.2⟩
theorem isWb_of {c : Nat} (h : 29 ≤ c ∧ c < 218 ∧ 3 ≤ (c - 29) % 27 ∧ (c - 29) % 27 % 3 = 0) : isWb c = true := by
  unfold isWb
  simp only [Bool.and_eq_true]
  exact ⟨⟨⟨Nat.ble_eq.mpr h.1, Nat.blt_eq.mpr h.2.1⟩, Nat.ble_eq.mpr h.2.2.1⟩, Nat.beq_eq.mpr h.2.2.2⟩
theorem mlW_is {c d : Nat} {w : Int32} (hc : isSb c = true) (h : mlW c w = some d) : isWb d = true := by
  obtain ⟨h1, h2, h3⟩ := isSb_iff hc
  unfold mlW at h
  split at h
  next => cases h
  next hn =>
    cases h
    have h4 : w.toNatClampNeg < 8 := Nat.not_le.mp (fun q => hn (Or.inr q))
    exact isWb_of ⟨by omega, by omega, by omega, by omega⟩
theorem EC_mid {M : Mem} {c : Nat} (h1 : 29 ≤ c) (h2 : c < 218) : EC G ad MM M c = stb ad G.2.1 c (M c) := by
  unfold EC EE
  rw [if_neg (by omega), if_pos h2]
theorem io_S {c : Nat} (h : isSb c = true) : isO (EC G ad MM) c 4 (oX4 ad c) := by
  obtain ⟨h1, h2, h3⟩ := isSb_iff h
  refine ⟨by unfold NC; omega, fun M => ?_⟩
  rw [EC_mid h1 h2]
  unfold stb
  rw [if_pos h3]
theorem ia_S1 {c : Nat} (h : isSb c = true) : isA G (EC G ad MM) (c + 1) 40 0 := by
  obtain ⟨h1, h2, h3⟩ := isSb_iff h
  refine ⟨by unfold NC; omega, fun M => ?_⟩
  rw [EC_mid (by omega) (by omega)]
  unfold stb
  rw [if_neg (by omega), if_pos (by omega)]
theorem iq_S2 {c : Nat} (h : isSb c = true) : isQ G (EC G ad MM) (c + 2) 8 4 (fun _ j => some (ad (c + 3 + 3 * j))) := by
  obtain ⟨h1, h2, h3⟩ := isSb_iff h
  refine ⟨by unfold NC; omega, fun M => ?_⟩
  rw [EC_mid (by omega) (by omega)]
  unfold stb
  rw [if_neg (by omega), if_neg (by omega), if_pos (by omega)]
theorem io_W {c : Nat} (h : isWb c = true) : isO (EC G ad MM) c 5 (oX5 ad c) := by
  obtain ⟨h1, h2, h3, h4⟩ := isWb_iff h
  refine ⟨by unfold NC; omega, fun M => ?_⟩
  rw [EC_mid h1 h2]
  unfold stb
  rw [if_neg (by omega), if_neg (by omega), if_neg (by omega), if_pos h4]
theorem ia_W1 {c : Nat} (h : isWb c = true) : isA G (EC G ad MM) (c + 1) 8 0 := by
  obtain ⟨h1, h2, h3, h4⟩ := isWb_iff h
  refine ⟨by unfold NC; omega, fun M => ?_⟩
  rw [EC_mid (by omega) (by omega)]
  unfold stb
  rw [if_neg (by omega), if_neg (by omega), if_neg (by omega), if_neg (by omega), if_pos (by omega)]
theorem ia_W2 {c : Nat} (h : isWb c = true) : isA G (EC G ad MM) (c + 2) 960 0 := by
  obtain ⟨h1, h2, h3, h4⟩ := isWb_iff h
  refine ⟨by unfold NC; omega, fun M => ?_⟩
  rw [EC_mid (by omega) (by omega)]
  unfold stb
  rw [if_neg (by omega), if_neg (by omega), if_neg (by omega), if_neg (by omega), if_neg (by omega)]
/-- the rows that Forms.make may be given -/
def isRb (a : Nat) : Bool := Nat.beq a 15 || Nat.beq a 16 || Nat.beq a 18
def rlen (a : Nat) : Nat := if a = 15 then 2048 else if a = 16 then 2 else 120
theorem ia_R {a : Nat} (h : isRb a = true) : isA G (EC G ad MM) a (rlen a) 0 := by
  unfold isRb at h
  simp only [Bool.or_eq_true] at h
  rcases h with (h | h) | h
  · rw [Nat.beq_eq.mp h]; exact ia_15
  · rw [Nat.beq_eq.mp h]; exact ia_16
  · rw [Nat.beq_eq.mp h]; exact ia_18
theorem isSb_29 : isSb 29 = true := by decide
end WORLD
end
section
/-! THE FUNCTIONAL PROGRAMS, by gen.py out of the bytecode -/
def f_X0_begin (p1 : Int32) (M : Mem) : Option Rv := (mpi M 13 4 p1).bind fun M1 => (mpi M1 13 5 0).bind fun M2 => (mpi M2 13 6 0).bind fun M3 => some (0, M3)
def f_X0_neutral_14 (s0 : Int32) (M : Mem) : Option Rv := some (s0, M)
def f_X0_neutral (M : Mem) : Option Rv := if (M 13 4) = 20 then (f_X0_neutral_14 1 M) else f_X0_neutral_14 0 M
def f_X1_kid (p1 : Int32) (p2 : Int32) (M : Mem) : Option Rv := (mrd M 3 2048 p1).bind fun v1 => (mrd M 9 8192 (v1 + p2)).bind fun v2 => some (v2, M)
def f_X1_order_66 (x3 : Int32) (x4 : Int32) (M : Mem) : Option Rv := some (x3 - x4, M)
def f_X1_order_260 (x8 : Int32) (s0 : Int32) (M : Mem) : Option Rv := some (x8 - s0, M)
def f_X1_order_230 (x4 : Int32) (x6 : Int32) (s0 : Int32) (M : Mem) : Option Rv := (mrd M 4 2048 x4).bind fun v1 => if v1 = x6 then (f_X1_order_260 s0 41 M) else (mrd M 2 2048 x4).bind fun v3 => (mrs sepf 22 v3).bind fun v4 => f_X1_order_260 s0 v4 M
def f_X1_order_197 (k8 : Int32 → Int32 → Int32 → Mem → Option Rv) (x3 : Int32) (x4 : Int32) (x5 : Int32) (x6 : Int32) (x7 : Int32) (M : Mem) : Option Rv := if x7 = x6 then ((mrd M 4 2048 x3).bind fun v6 => if v6 = x6 then (f_X1_order_230 x4 x6 41 M) else (mrd M 2 2048 x3).bind fun v8 => (mrs sepf 22 v8).bind fun v9 => f_X1_order_230 x4 x6 v9 M) else (mrd M 3 2048 x3).bind fun v2 => (mrd M 9 8192 (v2 + x7)).bind fun v3 => (mrd M 3 2048 x4).bind fun v4 => (mrd M 9 8192 (v4 + x7)).bind fun v5 => k8 v3 v5 (x5 + 1) M
def f_X1_order_153 (k8 : Int32 → Int32 → Int32 → Mem → Option Rv) (x3 : Int32) (x4 : Int32) (x5 : Int32) (x6 : Int32) (x7 : Int32) (M : Mem) : Option Rv := if 0 < x7 then ((mrd M 2 2048 x3).bind fun v2 => (mrd M 2 2048 x4).bind fun v3 => if v2 = v3 then (f_X1_order_197 k8 x3 x4 x5 x6 x7 M) else (mrd M 2 2048 x3).bind fun v5 => (mrs sepf 22 v5).bind fun v6 => (mrd M 2 2048 x4).bind fun v7 => (mrs sepf 22 v7).bind fun v8 => some (v6 - v8, M)) else f_X1_order_197 k8 x3 x4 x5 x6 x7 M
def f_X1_order_108 (k8 : Int32 → Int32 → Int32 → Mem → Option Rv) : Nat → Int32 → Int32 → Int32 → Int32 → Int32 → Mem → Option Rv
  | 0, _, _, _, _, _, _ => none
  | n + 1, x3, x4, x5, x6, x7, M => if x7 < x6 then ((mrd M 3 2048 x3).bind fun v2 => (mrd M 9 8192 (v2 + x7)).bind fun v3 => (mrd M 3 2048 x4).bind fun v4 => (mrd M 9 8192 (v4 + x7)).bind fun v5 => if v3 = v5 then (f_X1_order_108 k8 n x3 x4 x5 x6 (x7 + 1) M) else f_X1_order_153 k8 x3 x4 x5 x6 x7 M) else f_X1_order_153 k8 x3 x4 x5 x6 x7 M
def f_X1_order_103 (k8 : Int32 → Int32 → Int32 → Mem → Option Rv) (x3 : Int32) (x4 : Int32) (x5 : Int32) (s0 : Int32) (M : Mem) : Option Rv := f_X1_order_108 k8 fuelN x3 x4 x5 s0 0 M
def f_X1_order_306 (M : Mem) : Option Rv := some (0, M)
def f_X1_order_8 : Nat → Int32 → Int32 → Int32 → Mem → Option Rv
  | 0, _, _, _, _ => none
  | n + 1, x3, x4, x5, M => if x5 < 2048 then (if x3 = x4 then (f_X1_order_306 M) else (mrd M 8 2048 x3).bind fun v3 => (mrd M 8 2048 x4).bind fun v4 => if v3 = v4 then (if x3 < 16 then (f_X1_order_66 x3 x4 M) else if x4 < 16 then (f_X1_order_66 x3 x4 M) else (mrd M 4 2048 x3).bind fun v8 => (mrd M 4 2048 x4).bind fun v9 => if v8 < v9 then ((mrd M 4 2048 x3).bind fun v12 => f_X1_order_103 (f_X1_order_8 n) x3 x4 x5 v12 M) else (mrd M 4 2048 x4).bind fun v11 => f_X1_order_103 (f_X1_order_8 n) x3 x4 x5 v11 M) else (mrd M 8 2048 x3).bind fun v13 => (mrd M 8 2048 x4).bind fun v14 => some (v13 - v14, M)) else f_X1_order_306 M
def f_X1_order (p1 : Int32) (p2 : Int32) (M : Mem) : Option Rv := f_X1_order_8 fuelN p1 p2 0 M
def f_X0_put_220 (k43 : Int32 → Int32 → Int32 → Int32 → Mem → Option Rv) (x1 : Int32) (x2 : Int32) (x3 : Int32) (x4 : Int32) (M : Mem) : Option Rv := k43 x1 x2 x3 (x4 + 1) M
def f_X0_put_151 (k43 : Int32 → Int32 → Int32 → Int32 → Mem → Option Rv) (x1 : Int32) (x2 : Int32) (x3 : Int32) (x4 : Int32) (x5 : Int32) (x6 : Int32) (s0 : Int32) (M : Mem) : Option Rv := if s0 = 0 then ((f_X0_neutral M).bind fun q2 => if x5 = q2.1 then (f_X0_put_220 k43 x1 x2 x3 x4 q2.2) else if (q2.2 13 5) < 2048 then ((mcp q2.2 15 2048 15 2048 x6 (x6 + 1) ((q2.2 13 5) - x6)).bind fun M5 => (mst M5 15 2048 x6 x5).bind fun M6 => (mpi M6 13 5 ((M6 13 5) + 1)).bind fun M7 => f_X0_put_220 k43 x1 x2 x3 x4 M7) else f_X0_put_220 k43 x1 x2 x3 x4 q2.2) else f_X0_put_220 k43 x1 x2 x3 x4 M
def f_X0_put_150 (k43 : Int32 → Int32 → Int32 → Int32 → Mem → Option Rv) (x1 : Int32) (x2 : Int32) (x3 : Int32) (x4 : Int32) (x5 : Int32) (x6 : Int32) (M : Mem) : Option Rv := f_X0_put_151 k43 x1 x2 x3 x4 x5 x6 0 M
def f_X0_put_127 (k43 : Int32 → Int32 → Int32 → Int32 → Mem → Option Rv) (x1 : Int32) (x2 : Int32) (x3 : Int32) (x4 : Int32) (x5 : Int32) (x6 : Int32) (M : Mem) : Option Rv := if 0 < x6 then ((mrd M 15 2048 (x6 - 1)).bind fun v2 => if v2 = x5 then (f_X0_put_151 k43 x1 x2 x3 x4 x5 x6 1 M) else f_X0_put_150 k43 x1 x2 x3 x4 x5 x6 M) else f_X0_put_150 k43 x1 x2 x3 x4 x5 x6 M
def f_X0_put_95 (k43 : Int32 → Int32 → Int32 → Int32 → Mem → Option Rv) : Nat → Int32 → Int32 → Int32 → Int32 → Int32 → Int32 → Mem → Option Rv
  | 0, _, _, _, _, _, _, _ => none
  | n + 1, x1, x2, x3, x4, x5, x6, M => if 0 < x6 then ((mrd M 15 2048 (x6 - 1)).bind fun v2 => (f_X1_order v2 x5 M).bind fun q3 => if 0 < q3.1 then (f_X0_put_95 k43 n x1 x2 x3 x4 x5 (x6 - 1) q3.2) else f_X0_put_127 k43 x1 x2 x3 x4 x5 x6 q3.2) else f_X0_put_127 k43 x1 x2 x3 x4 x5 x6 M
def f_X0_put_89 (k43 : Int32 → Int32 → Int32 → Int32 → Mem → Option Rv) (x1 : Int32) (x2 : Int32) (x3 : Int32) (x4 : Int32) (x5 : Int32) (M : Mem) : Option Rv := f_X0_put_95 k43 fuelN x1 x2 x3 x4 x5 (M 13 5) M
def f_X0_put_67 (k43 : Int32 → Int32 → Int32 → Int32 → Mem → Option Rv) (x1 : Int32) (x2 : Int32) (x3 : Int32) (x4 : Int32) (s0 : Int32) (M : Mem) : Option Rv := if s0 < 16 then ((mpi M 13 6 ((M 13 6) ||| (1 <<< ((s0 : Int32) &&& 31)))).bind fun M2 => f_X0_put_89 k43 x1 x2 x3 x4 s0 M2) else f_X0_put_89 k43 x1 x2 x3 x4 s0 M
def f_X0_put_43 : Nat → Int32 → Int32 → Int32 → Int32 → Mem → Option Rv
  | 0, _, _, _, _, _ => none
  | n + 1, x1, x2, x3, x4, M => if x4 < x3 then (if x2 = 0 then (f_X0_put_67 (f_X0_put_43 n) x1 x2 x3 x4 x1 M) else (f_X1_kid x1 x4 M).bind fun q3 => f_X0_put_67 (f_X0_put_43 n) x1 x2 x3 x4 q3.1 q3.2) else some (0, M)
def f_X0_put_39 (x1 : Int32) (x2 : Int32) (s0 : Int32) (M : Mem) : Option Rv := f_X0_put_43 fuelN x1 x2 s0 0 M
def f_X0_put_21 (x1 : Int32) (s0 : Int32) (M : Mem) : Option Rv := if s0 = 0 then (f_X0_put_39 x1 s0 1 M) else (mrd M 4 2048 x1).bind fun v2 => f_X0_put_39 x1 s0 v2 M
def f_X0_put (p1 : Int32) (M : Mem) : Option Rv := (mrd M 2 2048 p1).bind fun v1 => if v1 = (M 13 4) then (f_X0_put_21 p1 1 M) else f_X0_put_21 p1 0 M
def f_X1_describe_185 (s0 : Int32) (s1 : Int32) (M : Mem) : Option Rv := (mst M 7 2048 s1 (nz s0)).bind fun M1 => some (0, M1)
def f_X1_describe_180 (s0 : Int32) (M : Mem) : Option Rv := f_X1_describe_185 1 s0 M
def f_X1_describe_184 (s0 : Int32) (M : Mem) : Option Rv := f_X1_describe_185 0 s0 M
def f_X1_describe_169 (x2 : Int32) (x6 : Int32) (s0 : Int32) (M : Mem) : Option Rv := if x2 = 21 then (if x6 = 0 then (f_X1_describe_184 s0 M) else f_X1_describe_180 s0 M) else f_X1_describe_184 s0 M
def f_X1_describe_140 (x1 : Int32) (x2 : Int32) (x5 : Int32) (x6 : Int32) (s0 : Int32) (s1 : Int32) (M : Mem) : Option Rv := (mst M 8 2048 s1 (nc s0)).bind fun M1 => if x2 = 17 then (f_X1_describe_180 x1 M1) else if x2 = 19 then (f_X1_describe_180 x1 M1) else if x2 = 20 then (if x5 = 0 then (f_X1_describe_169 x2 x6 x1 M1) else f_X1_describe_180 x1 M1) else f_X1_describe_169 x2 x6 x1 M1
def f_X1_describe_26 : Nat → Int32 → Int32 → Int32 → Int32 → Int32 → Int32 → Int32 → Mem → Option Rv
  | 0, _, _, _, _, _, _, _, _ => none
  | n + 1, x1, x2, x3, x4, x5, x6, x7, M => if x7 < (M 1 12) then ((mrd M 9 8192 x7).bind fun v6 => (mrd M 5 2048 v6).bind fun v7 => (mrd M 6 2048 v6).bind fun v8 => (mrd M 7 2048 v6).bind fun v9 => (mrd M 7 2048 v6).bind fun v10 => f_X1_describe_26 n x1 x2 (x3 + v7) (x4 ||| v8) (x5 &&& v9) (x6 ||| v10) (x7 + 1) M) else (mst M 5 2048 x1 x3).bind fun M2 => (mst M2 6 2048 x1 x4).bind fun M3 => if x2 = 16 then (f_X1_describe_140 x1 x2 x5 x6 88 x1 M3) else if x2 = 17 then (f_X1_describe_140 x1 x2 x5 x6 78 x1 M3) else f_X1_describe_140 x1 x2 x5 x6 40 x1 M3
def f_X1_describe (p1 : Int32) (M : Mem) : Option Rv := (mrd M 2 2048 p1).bind fun v1 => (mrd M 3 2048 p1).bind fun v2 => f_X1_describe_26 fuelN p1 v1 1 0 1 0 v2 M
def f_X1_isMadeOf_21 (M : Mem) : Option Rv := mrz 0 M
def f_X1_isMadeOf_26 : Nat → Int32 → Nat → Int32 → Int32 → Int32 → Mem → Option Rv
  | 0, _, _, _, _, _, _ => none
  | n + 1, x1, x3, x4, x5, x6, M => if x6 < x5 then ((mrd M 3 2048 x1).bind fun v2 => (mrd M 9 8192 (v2 + x6)).bind fun v3 => (mrd M x3 (rlen x3) (x4 + x6)).bind fun v4 => if v3 = v4 then (f_X1_isMadeOf_26 n x1 x3 x4 x5 (x6 + 1) M) else mrz 0 M) else mrz 1 M
def f_X1_isMadeOf (p1 : Int32) (p2 : Int32) (p3 : Nat) (p4 : Int32) (p5 : Int32) (M : Mem) : Option Rv := (mrd M 2 2048 p1).bind fun v1 => if v1 = p2 then ((mrd M 4 2048 p1).bind fun v3 => if v3 = p5 then (f_X1_isMadeOf_26 fuelN p1 p3 p4 p5 0 M) else f_X1_isMadeOf_21 M) else f_X1_isMadeOf_21 M
def f_X1_make_13 (M : Mem) : Option Rv := some (0, M)
def f_X1_make_142 (M : Mem) : Option Rv := some (0, M)
def f_X1_make_119 (x1 : Int32) (x2 : Nat) (x3 : Int32) (x4 : Int32) (x6 : Int32) (M : Mem) : Option Rv := if (M 1 11) < 2048 then (if (8192 - (M 1 12)) < x4 then (f_X1_make_142 M) else (mpi M 1 11 ((M 1 11) + 1)).bind fun M3 => (mst M3 12 2048 (M 1 11) x6).bind fun M4 => (mrd M4 10 512 x6).bind fun v5 => (mst M4 11 2048 (M 1 11) v5).bind fun M6 => (mst M6 10 512 x6 (M 1 11)).bind fun M7 => (mst M7 2 2048 (M 1 11) x1).bind fun M8 => (mst M8 3 2048 (M 1 11) (M8 1 12)).bind fun M9 => (mst M9 4 2048 (M 1 11) x4).bind fun M10 => (mcp M10 x2 (rlen x2) 9 8192 x3 (M10 1 12) x4).bind fun M11 => (mpi M11 1 12 ((M11 1 12) + x4)).bind fun M12 => (f_X1_describe (M 1 11) M12).bind fun q13 => some (M 1 11, q13.2)) else f_X1_make_142 M
def f_X1_make_74 : Nat → Int32 → Nat → Int32 → Int32 → Int32 → Int32 → Int32 → Mem → Option Rv
  | 0, _, _, _, _, _, _, _, _ => none
  | n + 1, x1, x2, x3, x4, x6, x7, x8, M => if x8 < 2048 then (if x7 = 0 then (f_X1_make_119 x1 x2 x3 x4 x6 M) else (f_X1_isMadeOf x7 x1 x2 x3 x4 M).bind fun q3 => if q3.1 = 0 then ((mrd q3.2 11 2048 x7).bind fun v5 => f_X1_make_74 n x1 x2 x3 x4 x6 v5 (x8 + 1) q3.2) else some (x7, q3.2)) else f_X1_make_119 x1 x2 x3 x4 x6 M
def f_X1_make_21 : Nat → Int32 → Nat → Int32 → Int32 → Int32 → Int32 → Mem → Option Rv
  | 0, _, _, _, _, _, _, _ => none
  | n + 1, x1, x2, x3, x4, x5, x6, M => if x6 < x4 then ((mrd M x2 (rlen x2) (x3 + x6)).bind fun v3 => f_X1_make_21 n x1 x2 x3 x4 ((x5 * 31) + v3) (x6 + 1) M) else (mrd M 10 512 ((x5 ^^^ (mushr x5 9)) &&& 511)).bind fun v2 => f_X1_make_74 fuelN x1 x2 x3 x4 ((x5 ^^^ (mushr x5 9)) &&& 511) v2 0 M
def f_X1_make (p1 : Int32) (p2 : Nat) (p3 : Int32) (p4 : Int32) (M : Mem) : Option Rv := if p3 < 0 then (f_X1_make_13 M) else if ((nI (rlen p2)) - p3) < p4 then (f_X1_make_13 M) else f_X1_make_21 fuelN p1 p2 p3 p4 p1 0 M
def f_X0_done_83 (x2 : Int32) (M : Mem) : Option Rv := some (x2, M)
def f_X0_done_131 (s0 : Int32) (M : Mem) : Option Rv := some (s0, M)
def f_X0_done_67 (x1 : Int32) (x2 : Int32) (x3 : Int32) (x4 : Int32) (s0 : Int32) (M : Mem) : Option Rv := if x3 = 0 then (if x4 = 0 then (if s0 = 0 then (if (M 13 5) = 0 then (some (x1, M)) else if (M 13 5) = 1 then ((mrd M 15 2048 0).bind fun v7 => f_X0_done_131 v7 M) else (f_X1_make (M 13 4) 15 0 (M 13 5) M).bind fun q6 => f_X0_done_131 q6.1 q6.2) else f_X0_done_83 x2 M) else f_X0_done_83 x2 M) else f_X0_done_83 x2 M
def f_X0_done_43 (x1 : Int32) (x2 : Int32) (x3 : Int32) (s0 : Int32) (M : Mem) : Option Rv := if (((M 13 6) >>> ((4 : Int32) &&& 31)) &&& ((M 13 6) >>> ((10 : Int32) &&& 31))) = 0 then (f_X0_done_67 x1 x2 x3 s0 0 M) else f_X0_done_67 x1 x2 x3 s0 1 M
def f_X0_done_25 (x1 : Int32) (x2 : Int32) (s0 : Int32) (M : Mem) : Option Rv := if ((M 13 6) &&& 12) = 12 then (f_X0_done_43 x1 x2 s0 1 M) else f_X0_done_43 x1 x2 s0 0 M
def f_X0_done (M : Mem) : Option Rv := (f_X0_neutral M).bind fun q1 => if ((q1.2 13 6) &&& (1 <<< (((1 - q1.1) : Int32) &&& 31))) = 0 then (f_X0_done_25 q1.1 (1 - q1.1) 0 q1.2) else f_X0_done_25 q1.1 (1 - q1.1) 1 q1.2
def f_X0_two (p1 : Int32) (p2 : Int32) (p3 : Int32) (M : Mem) : Option Rv := (f_X0_begin p1 M).bind fun q1 => (f_X0_put p2 q1.2).bind fun q2 => (f_X0_put p3 q2.2).bind fun q3 => (f_X0_done q3.2).bind fun q4 => some (q4.1, q4.2)
def f_X0_make_41 (s0 : Int32) (s1 : Int32) (s3 : Int32) (M : Mem) : Option Rv := (f_X1_make s3 16 s1 s0 M).bind fun q1 => some (q1.1, q1.2)
def f_X0_make_36 (s0 : Int32) (s2 : Int32) (M : Mem) : Option Rv := f_X0_make_41 1 s0 s2 M
def f_X0_make (p1 : Int32) (p2 : Int32) (p3 : Int32) (M : Mem) : Option Rv := (mst M 16 2 0 p2).bind fun M1 => (mst M1 16 2 1 p3).bind fun M2 => if p1 = 16 then (f_X0_make_36 0 p1 M2) else if p1 = 17 then (f_X0_make_36 0 p1 M2) else f_X0_make_41 2 0 p1 M2
def f_X0_joinKids_7 : Nat → Int32 → Int32 → Mem → Option Rv
  | 0, _, _, _ => none
  | n + 1, x1, x3, M => (mrd M 4 2048 x1).bind fun v1 => if x3 < v1 then ((f_X1_kid x1 x3 M).bind fun q4 => (mrd q4.2 14 2048 q4.1).bind fun v5 => (f_X0_put v5 q4.2).bind fun q6 => f_X0_joinKids_7 n x1 (x3 + 1) q6.2) else (f_X0_done M).bind fun q3 => some (q3.1, q3.2)
def f_X0_joinKids (p1 : Int32) (p2 : Int32) (M : Mem) : Option Rv := (f_X0_begin p2 M).bind fun q1 => f_X0_joinKids_7 fuelN p1 0 q1.2
def f_X0_behind_87 (k30 : Int32 → Int32 → Int32 → Mem → Option Rv) (x1 : Int32) (x2 : Int32) (x3 : Int32) (s0 : Int32) (s1 : Int32) (M : Mem) : Option Rv := (mst M 14 2048 s1 s0).bind fun M1 => k30 x1 x2 (x3 + 1) M1
def f_X0_behind_68 (k30 : Int32 → Int32 → Int32 → Mem → Option Rv) (x1 : Int32) (x2 : Int32) (x3 : Int32) (x4 : Int32) (s0 : Int32) (s1 : Int32) (M : Mem) : Option Rv := (mst M 14 2048 s1 s0).bind fun M1 => if x4 = 0 then (f_X0_behind_87 k30 x1 x2 x3 1 (10 + x3) M1) else f_X0_behind_87 k30 x1 x2 x3 0 (10 + x3) M1
def f_X0_behind_49 (k30 : Int32 → Int32 → Int32 → Mem → Option Rv) (x1 : Int32) (x2 : Int32) (x3 : Int32) (s0 : Int32) (M : Mem) : Option Rv := if s0 = 0 then (f_X0_behind_68 k30 x1 x2 x3 s0 0 (4 + x3) M) else f_X0_behind_68 k30 x1 x2 x3 s0 1 (4 + x3) M
def f_X0_behind_300 (k97 : Int32 → Int32 → Mem → Option Rv) (x1 : Int32) (x3 : Int32) (M : Mem) : Option Rv := k97 x1 (x3 + 1) M
def f_X0_behind_97 : Nat → Int32 → Int32 → Mem → Option Rv
  | 0, _, _, _ => none
  | n + 1, x1, x3, M => if x1 < x3 then ((mrd M 14 2048 x1).bind fun v2 => some (v2, M)) else (f_X1_kid x3 0 M).bind fun q3 => (mrd q3.2 4 2048 x3).bind fun v4 => (f_X1_kid x3 (v4 - 1) q3.2).bind fun q5 => (mrd q5.2 2 2048 x3).bind fun v6 => if v6 = 16 then ((f_X0_two 20 2 q3.1 q5.2).bind fun q8 => (mst q8.2 14 2048 x3 q8.1).bind fun M9 => f_X0_behind_300 (f_X0_behind_97 n) x1 x3 M9) else if v6 = 17 then ((f_X0_two 21 3 q3.1 q5.2).bind fun q11 => (mst q11.2 14 2048 x3 q11.1).bind fun M12 => f_X0_behind_300 (f_X0_behind_97 n) x1 x3 M12) else if v6 = 18 then ((mrd q5.2 14 2048 q5.1).bind fun v14 => (mrd q5.2 14 2048 q3.1).bind fun v15 => (f_X0_two 20 v15 x3 q5.2).bind fun q16 => (f_X0_two 21 v14 q16.1 q16.2).bind fun q17 => (mst q17.2 14 2048 x3 q17.1).bind fun M18 => f_X0_behind_300 (f_X0_behind_97 n) x1 x3 M18) else if v6 = 19 then ((mrd q5.2 14 2048 q5.1).bind fun v20 => (mrd q5.2 14 2048 q3.1).bind fun v21 => (f_X0_two 21 v21 x3 q5.2).bind fun q22 => (f_X0_two 20 v20 q22.1 q22.2).bind fun q23 => (mst q23.2 14 2048 x3 q23.1).bind fun M24 => f_X0_behind_300 (f_X0_behind_97 n) x1 x3 M24) else (mrd q5.2 2 2048 x3).bind fun v25 => (f_X0_joinKids x3 v25 q5.2).bind fun q26 => (mst q26.2 14 2048 x3 q26.1).bind fun M27 => f_X0_behind_300 (f_X0_behind_97 n) x1 x3 M27
def f_X0_behind_30 : Nat → Int32 → Int32 → Int32 → Mem → Option Rv
  | 0, _, _, _, _ => none
  | n + 1, x1, x2, x3, M => if x3 < 6 then (if (x2 &&& (1 <<< ((x3 : Int32) &&& 31))) = 0 then (f_X0_behind_49 (f_X0_behind_30 n) x1 x2 x3 0 M) else f_X0_behind_49 (f_X0_behind_30 n) x1 x2 x3 1 M) else f_X0_behind_97 fuelN x1 16 M
def f_X0_behind (p1 : Int32) (p2 : Int32) (M : Mem) : Option Rv := (mst M 14 2048 0 0).bind fun M1 => (mst M1 14 2048 1 1).bind fun M2 => (mst M2 14 2048 2 1).bind fun M3 => (mst M3 14 2048 3 0).bind fun M4 => f_X0_behind_30 fuelN p1 p2 0 M4
def f_X0_opposite_249 (k69 : Int32 → Int32 → Mem → Option Rv) (x1 : Int32) (x2 : Int32) (M : Mem) : Option Rv := k69 x1 (x2 + 1) M
def f_X0_opposite_69 : Nat → Int32 → Int32 → Mem → Option Rv
  | 0, _, _, _ => none
  | n + 1, x1, x2, M => if x1 < x2 then ((mrd M 14 2048 x1).bind fun v2 => some (v2, M)) else (f_X1_kid x2 0 M).bind fun q3 => (mrd q3.2 14 2048 q3.1).bind fun v4 => (mrd q3.2 4 2048 x2).bind fun v5 => (f_X1_kid x2 (v5 - 1) q3.2).bind fun q6 => (mrd q6.2 14 2048 q6.1).bind fun v7 => (mrd q6.2 2 2048 x2).bind fun v8 => if v8 = 16 then ((f_X0_make 17 v4 v4 q6.2).bind fun q10 => (mst q10.2 14 2048 x2 q10.1).bind fun M11 => f_X0_opposite_249 (f_X0_opposite_69 n) x1 x2 M11) else if v8 = 17 then ((f_X0_make 16 v4 v4 q6.2).bind fun q13 => (mst q13.2 14 2048 x2 q13.1).bind fun M14 => f_X0_opposite_249 (f_X0_opposite_69 n) x1 x2 M14) else if v8 = 18 then ((f_X0_make 19 v4 v7 q6.2).bind fun q16 => (mst q16.2 14 2048 x2 q16.1).bind fun M17 => f_X0_opposite_249 (f_X0_opposite_69 n) x1 x2 M17) else if v8 = 19 then ((f_X0_make 18 v4 v7 q6.2).bind fun q19 => (mst q19.2 14 2048 x2 q19.1).bind fun M20 => f_X0_opposite_249 (f_X0_opposite_69 n) x1 x2 M20) else (mrd q6.2 2 2048 x2).bind fun v21 => (f_X0_joinKids x2 (41 - v21) q6.2).bind fun q22 => (mst q22.2 14 2048 x2 q22.1).bind fun M23 => f_X0_opposite_249 (f_X0_opposite_69 n) x1 x2 M23
def f_X0_opposite_30 : Nat → Int32 → Int32 → Mem → Option Rv
  | 0, _, _, _ => none
  | n + 1, x1, x2, M => if x2 < 6 then ((mst M 14 2048 (4 + x2) (10 + x2)).bind fun M2 => (mst M2 14 2048 (10 + x2) (4 + x2)).bind fun M3 => f_X0_opposite_30 n x1 (x2 + 1) M3) else f_X0_opposite_69 fuelN x1 16 M
def f_X0_opposite (p1 : Int32) (M : Mem) : Option Rv := (mst M 14 2048 0 1).bind fun M1 => (mst M1 14 2048 1 0).bind fun M2 => (mst M2 14 2048 2 3).bind fun M3 => (mst M3 14 2048 3 2).bind fun M4 => f_X0_opposite_30 fuelN p1 0 M4
def f_X1_release_56 (M : Mem) : Option Rv := some (0, M)
def f_X1_release_7 : Nat → Int32 → Int32 → Mem → Option Rv
  | 0, _, _, _ => none
  | n + 1, x1, x2, M => if x2 < x1 then (f_X1_release_56 M) else if x2 < 16 then (f_X1_release_56 M) else (mrd M 12 2048 x2).bind fun v3 => (mrd M 11 2048 x2).bind fun v4 => (mst M 10 512 v3 v4).bind fun M5 => (mrd M5 3 2048 x2).bind fun v6 => (mpi M5 1 12 v6).bind fun M7 => (mpi M7 1 11 x2).bind fun M8 => f_X1_release_7 n x1 (x2 - 1) M8
def f_X1_release (p1 : Int32) (M : Mem) : Option Rv := f_X1_release_7 fuelN p1 ((M 1 11) - 1) M
def f_X2_append (p1 : Int32) (M : Mem) : Option Rv := if (M 22 5) < 60 then ((mst M 23 60 (M 22 5) (nc p1)).bind fun M2 => (mpi M2 22 5 ((M2 22 5) + 1)).bind fun M3 => mrz 1 M3) else mrz 0 M
def f_X2_binding (p1 : Int32) (M : Mem) : Option Rv := if p1 = 38 then (some (2, M)) else if p1 = 82 then (some (3, M)) else if p1 = 85 then (some (3, M)) else if p1 = 124 then (some (1, M)) else some (0, M)
def f_X2_isBetween_12 (s0 : Int32) (M : Mem) : Option Rv := mrz s0 M
def f_X2_isBetween (p1 : Int32) (M : Mem) : Option Rv := (f_X2_binding p1 M).bind fun q1 => if 0 < q1.1 then (f_X2_isBetween_12 1 q1.2) else f_X2_isBetween_12 0 q1.2
def f_X2_isInFront_35 (s0 : Int32) (M : Mem) : Option Rv := mrz s0 M
def f_X2_isInFront_30 (M : Mem) : Option Rv := f_X2_isInFront_35 1 M
def f_X2_isInFront (p1 : Int32) (M : Mem) : Option Rv := if p1 = 33 then (f_X2_isInFront_30 M) else if p1 = 88 then (f_X2_isInFront_30 M) else if p1 = 78 then (f_X2_isInFront_30 M) else if p1 = 71 then (f_X2_isInFront_30 M) else if p1 = 70 then (f_X2_isInFront_30 M) else f_X2_isInFront_35 0 M
def f_X2_isValue_29 (s0 : Int32) (M : Mem) : Option Rv := mrz s0 M
def f_X2_isValue_24 (M : Mem) : Option Rv := f_X2_isValue_29 1 M
def f_X2_isValue_28 (M : Mem) : Option Rv := f_X2_isValue_29 0 M
def f_X2_isValue (p1 : Int32) (M : Mem) : Option Rv := if p1 = 48 then (f_X2_isValue_24 M) else if p1 = 49 then (f_X2_isValue_24 M) else if p1 < 97 then (f_X2_isValue_28 M) else if 102 < p1 then (f_X2_isValue_28 M) else f_X2_isValue_24 M
def f_X2_findFault_99 (k6 : Int32 → Int32 → Int32 → Mem → Option Rv) (x1 : Int32) (x2 : Int32) (x3 : Int32) (M : Mem) : Option Rv := k6 x1 x2 (x3 + 1) M
def f_X2_findFault_44 (k6 : Int32 → Int32 → Int32 → Mem → Option Rv) (x1 : Int32) (x2 : Int32) (x3 : Int32) (x4 : Int32) (M : Mem) : Option Rv := (f_X2_isValue x4 M).bind fun q1 => if q1.1 = 0 then ((f_X2_isInFront x4 q1.2).bind fun q3 => if q3.1 = 0 then (some (x3, q3.2)) else f_X2_findFault_99 k6 x1 x2 x3 q3.2) else f_X2_findFault_99 k6 0 x2 x3 q1.2
def f_X2_findFault_84 (k6 : Int32 → Int32 → Int32 → Mem → Option Rv) (x2 : Int32) (x3 : Int32) (x4 : Int32) (M : Mem) : Option Rv := (f_X2_isBetween x4 M).bind fun q1 => if q1.1 = 0 then (some (x3, q1.2)) else f_X2_findFault_99 k6 1 x2 x3 q1.2
def f_X2_findFault_121 (s0 : Int32) (M : Mem) : Option Rv := some (s0, M)
def f_X2_findFault_113 (M : Mem) : Option Rv := f_X2_findFault_121 (M 22 5) M
def f_X2_findFault_6 : Nat → Int32 → Int32 → Int32 → Mem → Option Rv
  | 0, _, _, _, _ => none
  | n + 1, x1, x2, x3, M => if x3 < (M 22 5) then ((mrd M 23 60 x3).bind fun v4 => if x1 = 0 then (if v4 = 41 then (if 0 < x2 then (f_X2_findFault_99 (f_X2_findFault_6 n) x1 (x2 - 1) x3 M) else f_X2_findFault_84 (f_X2_findFault_6 n) x2 x3 v4 M) else f_X2_findFault_84 (f_X2_findFault_6 n) x2 x3 v4 M) else if v4 = 40 then (if x2 < 4 then (f_X2_findFault_99 (f_X2_findFault_6 n) x1 (x2 + 1) x3 M) else f_X2_findFault_44 (f_X2_findFault_6 n) x1 x2 x3 v4 M) else f_X2_findFault_44 (f_X2_findFault_6 n) x1 x2 x3 v4 M) else if x1 = 0 then (if 0 < x2 then (f_X2_findFault_113 M) else f_X2_findFault_121 (-1) M) else f_X2_findFault_113 M
def f_X2_findFault (M : Mem) : Option Rv := f_X2_findFault_6 fuelN 1 0 0 M
def f_X2_applyInFront_173 (k0 : Mem → Option Rv) (x2 : Int32) (M : Mem) : Option Rv := (mst M 24 60 ((M 22 6) - 1) x2).bind fun M1 => k0 M1
def f_X2_applyInFront_188 (M : Mem) : Option Rv := some (0, M)
def f_X2_applyInFront_0 : Nat → Mem → Option Rv
  | 0, _ => none
  | n + 1, M => if 0 < (M 22 7) then (if 0 < (M 22 6) then ((mrd M 25 60 ((M 22 7) - 1)).bind fun v3 => (f_X2_isInFront v3 M).bind fun q4 => if q4.1 = 0 then (f_X2_applyInFront_188 q4.2) else (mpi q4.2 22 7 ((q4.2 22 7) - 1)).bind fun M6 => (mrd M6 24 60 ((M6 22 6) - 1)).bind fun v7 => (mrd M6 25 60 (M6 22 7)).bind fun v8 => if v8 = 33 then ((f_X0_opposite v7 M6).bind fun q10 => f_X2_applyInFront_173 (f_X2_applyInFront_0 n) q10.1 q10.2) else if v8 = 71 then ((f_X0_make 19 0 v7 M6).bind fun q12 => f_X2_applyInFront_173 (f_X2_applyInFront_0 n) q12.1 q12.2) else if v8 = 78 then ((f_X0_make 17 v7 v7 M6).bind fun q14 => f_X2_applyInFront_173 (f_X2_applyInFront_0 n) q14.1 q14.2) else if v8 = 88 then ((f_X0_make 16 v7 v7 M6).bind fun q16 => f_X2_applyInFront_173 (f_X2_applyInFront_0 n) q16.1 q16.2) else (f_X0_make 18 1 v7 M6).bind fun q17 => f_X2_applyInFront_173 (f_X2_applyInFront_0 n) q17.1 q17.2) else f_X2_applyInFront_188 M) else f_X2_applyInFront_188 M
def f_X2_applyInFront (M : Mem) : Option Rv := f_X2_applyInFront_0 fuelN M
def f_X2_await_29 (M : Mem) : Option Rv := some (0, M)
def f_X2_await (p1 : Int32) (M : Mem) : Option Rv := if (M 22 7) < 60 then ((mst M 25 60 (M 22 7) (nc p1)).bind fun M2 => (mpi M2 22 7 ((M2 22 7) + 1)).bind fun M3 => f_X2_await_29 M3) else f_X2_await_29 M
def f_X2_combineDownTo_181 (k0 : Int32 → Mem → Option Rv) (x1 : Int32) (x4 : Int32) (M : Mem) : Option Rv := (mst M 24 60 ((M 22 6) - 1) x4).bind fun M1 => k0 x1 M1
def f_X2_combineDownTo_197 (M : Mem) : Option Rv := some (0, M)
def f_X2_combineDownTo_0 : Nat → Int32 → Mem → Option Rv
  | 0, _, _ => none
  | n + 1, x1, M => if 0 < (M 22 7) then (if 1 < (M 22 6) then ((mrd M 25 60 ((M 22 7) - 1)).bind fun v3 => (f_X2_binding v3 M).bind fun q4 => if q4.1 < x1 then (f_X2_combineDownTo_197 q4.2) else (mpi q4.2 22 7 ((q4.2 22 7) - 1)).bind fun M6 => (mpi M6 22 6 ((M6 22 6) - 1)).bind fun M7 => (mrd M7 24 60 ((M7 22 6) - 1)).bind fun v8 => (mrd M7 24 60 (M7 22 6)).bind fun v9 => (mrd M7 25 60 (M7 22 7)).bind fun v10 => if v10 = 38 then ((f_X0_two 20 v8 v9 M7).bind fun q12 => f_X2_combineDownTo_181 (f_X2_combineDownTo_0 n) x1 q12.1 q12.2) else if v10 = 82 then ((f_X0_make 19 v8 v9 M7).bind fun q14 => f_X2_combineDownTo_181 (f_X2_combineDownTo_0 n) x1 q14.1 q14.2) else if v10 = 85 then ((f_X0_make 18 v8 v9 M7).bind fun q16 => f_X2_combineDownTo_181 (f_X2_combineDownTo_0 n) x1 q16.1 q16.2) else (f_X0_two 21 v8 v9 M7).bind fun q17 => f_X2_combineDownTo_181 (f_X2_combineDownTo_0 n) x1 q17.1 q17.2) else f_X2_combineDownTo_197 M) else f_X2_combineDownTo_197 M
def f_X2_combineDownTo (p1 : Int32) (M : Mem) : Option Rv := f_X2_combineDownTo_0 fuelN p1 M
def f_X2_hold_29 (M : Mem) : Option Rv := some (0, M)
def f_X2_hold (p1 : Int32) (M : Mem) : Option Rv := if (M 22 6) < 60 then ((mst M 24 60 (M 22 6) p1).bind fun M2 => (mpi M2 22 6 ((M2 22 6) + 1)).bind fun M3 => f_X2_hold_29 M3) else f_X2_hold_29 M
def f_X2_leastToCombine_25 (s0 : Int32) (M : Mem) : Option Rv := some (s0, M)
def f_X2_leastToCombine_12 (x0 : Int32) (M : Mem) : Option Rv := (f_X2_binding x0 M).bind fun q1 => f_X2_leastToCombine_25 (q1.1 + 1) q1.2
def f_X2_leastToCombine (p1 : Int32) (M : Mem) : Option Rv := if p1 = 85 then (f_X2_leastToCombine_12 p1 M) else if p1 = 82 then (f_X2_leastToCombine_12 p1 M) else (f_X2_binding p1 M).bind fun q3 => f_X2_leastToCombine_25 q3.1 q3.2
def f_X2_valueOf_26 (s0 : Int32) (M : Mem) : Option Rv := some (s0, M)
def f_X2_valueOf (p1 : Int32) (M : Mem) : Option Rv := if p1 = 48 then (f_X2_valueOf_26 0 M) else if p1 = 49 then (f_X2_valueOf_26 1 M) else f_X2_valueOf_26 (4 + (p1 - 97)) M
def f_X2_read_108 (k12 : Int32 → Mem → Option Rv) (x1 : Int32) (M : Mem) : Option Rv := k12 (x1 + 1) M
def f_X2_read_78 (k12 : Int32 → Mem → Option Rv) (x1 : Int32) (s0 : Int32) (M : Mem) : Option Rv := (mpi M 22 7 s0).bind fun M1 => (f_X2_applyInFront M1).bind fun q2 => f_X2_read_108 k12 x1 q2.2
def f_X2_read_103 (k12 : Int32 → Mem → Option Rv) (x1 : Int32) (x2 : Int32) (M : Mem) : Option Rv := (f_X2_await x2 M).bind fun q1 => f_X2_read_108 k12 x1 q1.2
def f_X2_read_136 (s0 : Int32) (M : Mem) : Option Rv := some (s0, M)
def f_X2_read_12 : Nat → Int32 → Mem → Option Rv
  | 0, _, _ => none
  | n + 1, x1, M => if x1 < (M 22 5) then ((mrd M 23 60 x1).bind fun v5 => (f_X2_isValue v5 M).bind fun q6 => if q6.1 = 0 then (if v5 = 41 then ((f_X2_combineDownTo 1 q6.2).bind fun q13 => if 0 < (q13.2 22 7) then (f_X2_read_78 (f_X2_read_12 n) x1 ((q13.2 22 7) - 1) q13.2) else f_X2_read_78 (f_X2_read_12 n) x1 0 q13.2) else (f_X2_isBetween v5 q6.2).bind fun q9 => if q9.1 = 0 then (f_X2_read_103 (f_X2_read_12 n) x1 v5 q9.2) else (f_X2_leastToCombine v5 q9.2).bind fun q11 => (f_X2_combineDownTo q11.1 q11.2).bind fun q12 => f_X2_read_103 (f_X2_read_12 n) x1 v5 q12.2) else (f_X2_valueOf v5 q6.2).bind fun q15 => (f_X2_hold q15.1 q15.2).bind fun q16 => (f_X2_applyInFront q16.2).bind fun q17 => f_X2_read_108 (f_X2_read_12 n) x1 q17.2) else (f_X2_combineDownTo 1 M).bind fun q2 => if 0 < (q2.2 22 6) then ((mrd q2.2 24 60 0).bind fun v4 => f_X2_read_136 v4 q2.2) else f_X2_read_136 0 q2.2
def f_X2_read (M : Mem) : Option Rv := (mpi M 22 6 0).bind fun M1 => (mpi M1 22 7 0).bind fun M2 => f_X2_read_12 fuelN 0 M2
def f_X3_load_85 (M : Mem) : Option Rv := some (0, M)
def f_X3_load_68 (k13 : Nat → Int32 → Int32 → Int32 → Mem → Option Rv) (x1 : Nat) (x2 : Int32) (x3 : Int32) (x4 : Int32) (x6 : Int32) (x7 : Int32) (M : Mem) : Option Rv := if (x3 + (x6 - 1)) < 0 then (f_X3_load_85 M) else if (x3 + (x6 - 1)) < 120 then ((mst M 18 120 (x3 + (x6 - 1)) x7).bind fun M3 => k13 x1 x2 (x3 + (x6 - 1)) (x4 - 1) M3) else f_X3_load_85 M
def f_X3_load_117 (s0 : Int32) (M : Mem) : Option Rv := some (s0, M)
def f_X3_load_13 : Nat → Nat → Int32 → Int32 → Int32 → Mem → Option Rv
  | 0, _, _, _, _, _ => none
  | n + 1, x1, x2, x3, x4, M => if x4 < 0 then (if x3 < 120 then ((mrd M 18 120 x3).bind fun v3 => f_X3_load_117 v3 M) else f_X3_load_117 0 M) else (mrd M (x1 + 2) 960 ((x2 * 120) + x4)).bind fun v4 => if 0 < (v4 >>> ((5 : Int32) &&& 31)) then ((f_X1_make (v4 &&& 31) 18 x3 (v4 >>> ((5 : Int32) &&& 31)) M).bind fun q6 => f_X3_load_68 (f_X3_load_13 n) x1 x2 x3 x4 (v4 >>> ((5 : Int32) &&& 31)) q6.1 q6.2) else f_X3_load_68 (f_X3_load_13 n) x1 x2 x3 x4 (v4 >>> ((5 : Int32) &&& 31)) v4 M
def f_X3_load (p1 : Nat) (p2 : Int32) (M : Mem) : Option Rv := (mrd M (p1 + 1) 8 p2).bind fun v1 => f_X3_load_13 fuelN p1 p2 120 (v1 - 1) M
def f_X3_save_139 (k24 : Nat → Int32 → Int32 → Int32 → Int32 → Mem → Option Rv) (x2 : Nat) (x3 : Int32) (x4 : Int32) (x5 : Int32) (x6 : Int32) (M : Mem) : Option Rv := k24 x2 x3 x4 x5 (x6 + 1) M
def f_X3_save_100 (k24 : Nat → Int32 → Int32 → Int32 → Int32 → Mem → Option Rv) : Nat → Nat → Int32 → Int32 → Int32 → Int32 → Int32 → Int32 → Mem → Option Rv
  | 0, _, _, _, _, _, _, _, _ => none
  | n + 1, x2, x3, x4, x5, x6, x7, x9, M => if x9 < 0 then (f_X3_save_139 k24 x2 x3 x4 x5 x6 M) else if x5 < 120 then ((f_X1_kid x7 x9 M).bind fun q3 => (mst q3.2 18 120 x5 q3.1).bind fun M4 => f_X3_save_100 k24 n x2 x3 x4 (x5 + 1) x6 x7 (x9 - 1) M4) else f_X3_save_139 k24 x2 x3 x4 x5 x6 M
def f_X3_save_145 (x2 : Nat) (x3 : Int32) (x4 : Int32) (M : Mem) : Option Rv := (mst M (x2 + 1) 8 x3 x4).bind fun M1 => some (0, M1)
def f_X3_save_24 : Nat → Nat → Int32 → Int32 → Int32 → Int32 → Mem → Option Rv
  | 0, _, _, _, _, _, _ => none
  | n + 1, x2, x3, x4, x5, x6, M => if x6 < x4 then (if x6 < 120 then (if 0 < x5 then ((mrd M 18 120 (x5 - 1)).bind fun v4 => (mrd M 4 2048 v4).bind fun v5 => (mrd M 2 2048 v4).bind fun v6 => (mst M (x2 + 2) 960 ((x3 * 120) + x6) (v6 ||| (v5 <<< ((5 : Int32) &&& 31)))).bind fun M7 => f_X3_save_100 (f_X3_save_24 n) fuelN x2 x3 x4 (x5 - 1) x6 v4 (v5 - 1) M7) else f_X3_save_145 x2 x3 x4 M) else f_X3_save_145 x2 x3 x4 M) else f_X3_save_145 x2 x3 x4 M
def f_X3_save (p1 : Int32) (p2 : Nat) (p3 : Int32) (M : Mem) : Option Rv := (mrd M 5 2048 p1).bind fun v1 => (mst M 18 120 0 p1).bind fun M2 => f_X3_save_24 fuelN p2 p3 v1 1 0 M2
def f_X3_write_30 (M : Mem) : Option Rv := some (0, M)
def f_X3_write (p1 : Int32) (M : Mem) : Option Rv := if (M 17 5) < 360 then ((mst M 19 360 (M 17 5) (nc p1)).bind fun M2 => (mpi M2 17 5 ((M2 17 5) + 1)).bind fun M3 => f_X3_write_30 M3) else f_X3_write_30 M
def f_X3_spellBehindForm_0 : Nat → Mem → Option Rv
  | 0, _ => none
  | n + 1, M => if 0 < (M 17 6) then ((mrd M 21 120 ((M 17 6) - 1)).bind fun v2 => (mst M 21 120 ((M 17 6) - 1) (v2 - 1)).bind fun M3 => (mrd M3 21 120 ((M 17 6) - 1)).bind fun v4 => if 0 < v4 then ((mrd M3 20 120 ((M 17 6) - 1)).bind fun v8 => (f_X3_write v8 M3).bind fun q9 => some (0, q9.2)) else (f_X3_write 41 M3).bind fun q6 => (mpi q6.2 17 6 ((q6.2 17 6) - 1)).bind fun M7 => f_X3_spellBehindForm_0 n M7) else some (0, M)
def f_X3_spellBehindForm (M : Mem) : Option Rv := f_X3_spellBehindForm_0 fuelN M
def f_X3_spellLeaf_12 (x1 : Int32) (M : Mem) : Option Rv := (mrs llt 16 x1).bind fun v1 => (f_X3_write v1 M).bind fun q2 => some (0, q2.2)
def f_X3_spellLeaf (p1 : Int32) (M : Mem) : Option Rv := if p1 < 10 then (f_X3_spellLeaf_12 p1 M) else (f_X3_write 45 M).bind fun q2 => f_X3_spellLeaf_12 p1 q2.2
def f_X3_spell_144 (k12 : Nat → Int32 → Int32 → Mem → Option Rv) (x1 : Nat) (x2 : Int32) (x3 : Int32) (M : Mem) : Option Rv := k12 x1 x2 (x3 + 1) M
def f_X3_spell_87 (k12 : Nat → Int32 → Int32 → Mem → Option Rv) (x1 : Nat) (x2 : Int32) (x3 : Int32) (s0 : Int32) (M : Mem) : Option Rv := (f_X3_write s0 M).bind fun q1 => f_X3_spell_144 k12 x1 x2 x3 q1.2
def f_X3_spell_12 : Nat → Nat → Int32 → Int32 → Mem → Option Rv
  | 0, _, _, _, _ => none
  | n + 1, x1, x2, x3, M => (mrd M (x1 + 1) 8 x2).bind fun v1 => if x3 < v1 then ((mrd M (x1 + 2) 960 ((x2 * 120) + x3)).bind fun v3 => if (v3 >>> ((5 : Int32) &&& 31)) = 0 then ((f_X3_spellLeaf (v3 &&& 31) M).bind fun q13 => (f_X3_spellBehindForm q13.2).bind fun q14 => f_X3_spell_144 (f_X3_spell_12 n) x1 x2 x3 q14.2) else if (v3 >>> ((5 : Int32) &&& 31)) = 1 then (if (v3 &&& 31) = 16 then (f_X3_spell_87 (f_X3_spell_12 n) x1 x2 x3 88 M) else f_X3_spell_87 (f_X3_spell_12 n) x1 x2 x3 78 M) else if (M 17 6) < 120 then ((f_X3_write 40 M).bind fun q7 => (mrs sepf 22 (v3 &&& 31)).bind fun v8 => (mst q7.2 20 120 (q7.2 17 6) (nc v8)).bind fun M9 => (mst M9 21 120 (M9 17 6) (v3 >>> ((5 : Int32) &&& 31))).bind fun M10 => (mpi M10 17 6 ((M10 17 6) + 1)).bind fun M11 => f_X3_spell_144 (f_X3_spell_12 n) x1 x2 x3 M11) else f_X3_spell_144 (f_X3_spell_12 n) x1 x2 x3 M) else some (M 17 5, M)
def f_X3_spell (p1 : Nat) (p2 : Int32) (M : Mem) : Option Rv := (mpi M 17 5 0).bind fun M1 => (mpi M1 17 6 0).bind fun M2 => f_X3_spell_12 fuelN p1 p2 0 M2
def f_X5_copyFrom_50 : Nat → Nat → Nat → Int32 → Mem → Option Rv
  | 0, _, _, _, _ => none
  | n + 1, x0, x1, x2, M => if x2 < (M x0 2) then ((mrd M (x1 + 1) 8 x2).bind fun v2 => (mst M (x0 + 1) 8 x2 v2).bind fun M3 => (mrd M3 (x0 + 1) 8 x2).bind fun v4 => (mcp M3 (x1 + 2) 960 (x0 + 2) 960 (x2 * 120) (x2 * 120) v4).bind fun M5 => f_X5_copyFrom_50 n x0 x1 (x2 + 1) M5) else some (0, M)
def f_X5_copyFrom (c0 : Nat) (p1 : Nat) (M : Mem) : Option Rv := (mpz M c0 0 (M p1 0)).bind fun M1 => (mpi M1 c0 1 (M1 p1 1)).bind fun M2 => (mpi M2 c0 2 (M2 p1 2)).bind fun M3 => (mpi M3 c0 3 (M3 p1 3)).bind fun M4 => (mpi M4 c0 4 (M4 p1 4)).bind fun M5 => (mpi M5 c0 5 (M5 p1 5)).bind fun M6 => f_X5_copyFrom_50 fuelN c0 p1 0 M6
def f_X4_copyFrom_43 : Nat → Nat → Nat → Int32 → Mem → Option Rv
  | 0, _, _, _, _ => none
  | n + 1, x0, x1, x2, M => if x2 < (M x0 2) then ((mlW x0 x2).bind fun c2 => (mlW x1 x2).bind fun c3 => (f_X5_copyFrom c2 c3 M).bind fun q4 => f_X4_copyFrom_43 n x0 x1 (x2 + 1) q4.2) else some (0, M)
def f_X4_copyFrom (c0 : Nat) (p1 : Nat) (M : Mem) : Option Rv := (mpz M c0 0 (M p1 0)).bind fun M1 => (mpi M1 c0 1 (M1 p1 1)).bind fun M2 => (mpi M2 c0 2 (M2 p1 2)).bind fun M3 => (mcp M3 (p1 + 1) 40 (c0 + 1) 40 0 0 (M3 c0 1)).bind fun M4 => f_X4_copyFrom_43 fuelN c0 p1 0 M4
def f_X4_find_24 (M : Mem) : Option Rv := some (0, M)
def f_X4_find (c0 : Nat) (p1 : Int32) (M : Mem) : Option Rv := if p1 < 0 then (f_X4_find_24 M) else if p1 < (M c0 2) then ((mlW c0 p1).bind fun c3 => if (M c3 0) = 0 then (f_X4_find_24 M) else (mlW c0 p1).bind fun c5 => some (nI c5, M)) else f_X4_find_24 M
def f_X4_isOpen_30 (s0 : Int32) (M : Mem) : Option Rv := mrz s0 M
def f_X4_isOpen_29 (M : Mem) : Option Rv := f_X4_isOpen_30 0 M
def f_X4_isOpen (c0 : Nat) (p1 : Int32) (M : Mem) : Option Rv := (mlW c0 p1).bind fun c1 => if (M c1 0) = 0 then (f_X4_isOpen_29 M) else (mlW c0 p1).bind fun c3 => if (M c3 1) = 2 then (f_X4_isOpen_30 1 M) else f_X4_isOpen_29 M
def f_X5_sizeOfParts_4 : Nat → Nat → Int32 → Int32 → Mem → Option Rv
  | 0, _, _, _, _ => none
  | n + 1, x0, x1, x2, M => if x2 < (M x0 2) then ((mrd M (x0 + 1) 8 x2).bind fun v2 => f_X5_sizeOfParts_4 n x0 (x1 + v2) (x2 + 1) M) else some (x1, M)
def f_X5_sizeOfParts (c0 : Nat) (M : Mem) : Option Rv := f_X5_sizeOfParts_4 fuelN c0 0 0 M
def f_X4_rankOfOpen_66 (k15 : Nat → Int32 → Int32 → Int32 → Int32 → Mem → Option Rv) (x0 : Nat) (x1 : Int32) (x2 : Int32) (x3 : Int32) (x4 : Int32) (M : Mem) : Option Rv := k15 x0 x1 x2 x3 (x4 + 1) M
def f_X4_rankOfOpen_63 (k15 : Nat → Int32 → Int32 → Int32 → Int32 → Mem → Option Rv) (x0 : Nat) (x1 : Int32) (x2 : Int32) (x3 : Int32) (x4 : Int32) (M : Mem) : Option Rv := f_X4_rankOfOpen_66 k15 x0 x1 x2 (x3 + 1) x4 M
def f_X4_rankOfOpen_15 : Nat → Nat → Int32 → Int32 → Int32 → Int32 → Mem → Option Rv
  | 0, _, _, _, _, _, _ => none
  | n + 1, x0, x1, x2, x3, x4, M => if x4 < (M x0 2) then ((mlW x0 x4).bind fun c2 => (f_X5_sizeOfParts c2 M).bind fun q3 => (f_X4_isOpen x0 x4 q3.2).bind fun q4 => if q4.1 = 0 then (f_X4_rankOfOpen_66 (f_X4_rankOfOpen_15 n) x0 x1 x2 x3 x4 q4.2) else if x2 < q3.1 then (f_X4_rankOfOpen_63 (f_X4_rankOfOpen_15 n) x0 x1 x2 x3 x4 q4.2) else if q3.1 = x2 then (if x4 < x1 then (f_X4_rankOfOpen_63 (f_X4_rankOfOpen_15 n) x0 x1 x2 x3 x4 q4.2) else f_X4_rankOfOpen_66 (f_X4_rankOfOpen_15 n) x0 x1 x2 x3 x4 q4.2) else f_X4_rankOfOpen_66 (f_X4_rankOfOpen_15 n) x0 x1 x2 x3 x4 q4.2) else some (x3, M)
def f_X4_rankOfOpen (c0 : Nat) (p1 : Int32) (M : Mem) : Option Rv := (mlW c0 p1).bind fun c1 => (f_X5_sizeOfParts c1 M).bind fun q2 => f_X4_rankOfOpen_15 fuelN c0 p1 q2.1 0 0 q2.2
def f_X4_howMany_40 (k4 : Nat → Int32 → Int32 → Int32 → Mem → Option Rv) (x0 : Nat) (x1 : Int32) (x2 : Int32) (x3 : Int32) (M : Mem) : Option Rv := k4 x0 x1 x2 (x3 + 1) M
def f_X4_howMany_4 : Nat → Nat → Int32 → Int32 → Int32 → Mem → Option Rv
  | 0, _, _, _, _, _ => none
  | n + 1, x0, x1, x2, x3, M => if x3 < (M x0 2) then ((mlW x0 x3).bind fun c2 => if (M c2 0) = 0 then (f_X4_howMany_40 (f_X4_howMany_4 n) x0 x1 x2 x3 M) else (mlW x0 x3).bind fun c4 => if (M c4 1) = x1 then (f_X4_howMany_40 (f_X4_howMany_4 n) x0 x1 (x2 + 1) x3 M) else f_X4_howMany_40 (f_X4_howMany_4 n) x0 x1 x2 x3 M) else some (x2, M)
def f_X4_howMany (c0 : Nat) (p1 : Int32) (M : Mem) : Option Rv := f_X4_howMany_4 fuelN c0 p1 0 0 M
def f_X4_howManyThere (c0 : Nat) (M : Mem) : Option Rv := (f_X4_howMany c0 0 M).bind fun q1 => (f_X4_howMany c0 1 q1.2).bind fun q2 => (f_X4_howMany c0 2 q2.2).bind fun q3 => some ((q1.1 + q2.1) + q3.1, q3.2)
def f_X5_partsThatAre_31 (k4 : Nat → Int32 → Int32 → Int32 → Mem → Option Rv) (x0 : Nat) (x1 : Int32) (x2 : Int32) (x3 : Int32) (M : Mem) : Option Rv := k4 x0 x1 x2 (x3 + 1) M
def f_X5_partsThatAre_4 : Nat → Nat → Int32 → Int32 → Int32 → Mem → Option Rv
  | 0, _, _, _, _, _ => none
  | n + 1, x0, x1, x2, x3, M => if x3 < (M x0 2) then ((mrd M (x0 + 2) 960 (x3 * 120)).bind fun v2 => if v2 = x1 then (f_X5_partsThatAre_31 (f_X5_partsThatAre_4 n) x0 x1 (x2 ||| (1 <<< ((x3 : Int32) &&& 31))) x3 M) else f_X5_partsThatAre_31 (f_X5_partsThatAre_4 n) x0 x1 x2 x3 M) else some (x2, M)
def f_X5_partsThatAre (c0 : Nat) (p1 : Int32) (M : Mem) : Option Rv := f_X5_partsThatAre_4 fuelN c0 p1 0 0 M
def f_X5_verdictOfParts_31 (s0 : Int32) (M : Mem) : Option Rv := some (s0, M)
def f_X5_verdictOfParts (c0 : Nat) (M : Mem) : Option Rv := (f_X5_partsThatAre c0 0 M).bind fun q1 => if q1.1 = 0 then ((f_X5_partsThatAre c0 1 q1.2).bind fun q3 => if q3.1 = ((1 <<< (((q3.2 c0 2) : Int32) &&& 31)) - 1) then (f_X5_verdictOfParts_31 1 q3.2) else f_X5_verdictOfParts_31 2 q3.2) else some (0, q1.2)
def f_X5_come (c0 : Nat) (p1 : Int32) (p2 : Int32) (M : Mem) : Option Rv := (mpz M c0 0 1).bind fun M1 => (mpi M1 c0 2 p1).bind fun M2 => (f_X5_verdictOfParts c0 M2).bind fun q3 => (mpi q3.2 c0 1 q3.1).bind fun M4 => (mpi M4 c0 3 (-5)).bind fun M5 => (mpi M5 c0 4 0).bind fun M6 => (mpi M6 c0 5 p2).bind fun M7 => some (0, M7)
def f_X5_judge (c0 : Nat) (p1 : Int32) (M : Mem) : Option Rv := (f_X5_verdictOfParts c0 M).bind fun q1 => (mpi q1.2 c0 1 q1.1).bind fun M2 => if (M2 c0 1) = 2 then (mrz 0 M2) else (mpi M2 c0 3 p1).bind fun M4 => mrz 1 M4
def f_X6_recordAndGoOn_88 (x1 : Nat) (M : Mem) : Option Rv := (mlS (M 0 9)).bind fun c1 => (mpi M 0 8 (nI c1)).bind fun M2 => (mpi M2 0 9 (nI x1)).bind fun M3 => some (0, M3)
def f_X6_recordAndGoOn_53 : Nat → Nat → Int32 → Mem → Option Rv
  | 0, _, _, _ => none
  | n + 1, x1, x2, M => if x2 < 4 then ((mrd M 28 4 x2).bind fun v6 => (mlS v6).bind fun c4 => (mst M 28 4 (x2 - 1) (nI c4)).bind fun M5 => f_X6_recordAndGoOn_53 n x1 (x2 + 1) M5) else (mlS (M 0 8)).bind fun c2 => (mst M 28 4 3 (nI c2)).bind fun M3 => f_X6_recordAndGoOn_88 x1 M3
def f_X6_recordAndGoOn (M : Mem) : Option Rv := if (M 0 10) < 4 then ((mrd M 28 4 (M 0 10)).bind fun v8 => (mlS v8).bind fun c4 => (mlS (M 0 8)).bind fun c5 => (mst M 28 4 (M 0 10) (nI c5)).bind fun M6 => (mpi M6 0 10 ((M6 0 10) + 1)).bind fun M7 => f_X6_recordAndGoOn_88 c4 M7) else (mrd M 28 4 0).bind fun v3 => (mlS v3).bind fun c2 => f_X6_recordAndGoOn_53 fuelN c2 1 M
def f_X6_loadAlone (p1 : Nat) (p2 : Int32) (M : Mem) : Option Rv := (f_X1_release 16 M).bind fun q1 => (f_X3_load p1 p2 q1.2).bind fun q2 => some (q2.1, q2.2)
def f_X6_rewriteParts_3 : Nat → Nat → Nat → Int32 → Int32 → Mem → Option Rv
  | 0, _, _, _, _, _ => none
  | n + 1, x1, x2, x3, x4, M => if x4 < (M x1 2) then ((f_X6_loadAlone x1 x4 M).bind fun q2 => (f_X0_behind q2.1 x3 q2.2).bind fun q3 => (mrd q3.2 5 2048 q3.1).bind fun v4 => if 120 < v4 then (mrz 0 q3.2) else (f_X3_save q3.1 x2 x4 q3.2).bind fun q6 => f_X6_rewriteParts_3 n x1 x2 x3 (x4 + 1) q6.2) else mrz 1 M
def f_X6_rewriteParts (p1 : Nat) (p2 : Nat) (p3 : Int32) (M : Mem) : Option Rv := f_X6_rewriteParts_3 fuelN p1 p2 p3 0 M
def f_X6_verdictOfForm_18 (s0 : Int32) (M : Mem) : Option Rv := some (s0, M)
def f_X6_verdictOfForm (p1 : Int32) (M : Mem) : Option Rv := if p1 = 0 then (f_X6_verdictOfForm_18 0 M) else if p1 = 1 then (f_X6_verdictOfForm_18 1 M) else f_X6_verdictOfForm_18 2 M
def f_X6_worse_8 (M : Mem) : Option Rv := some (0, M)
def f_X6_worse_25 (s0 : Int32) (M : Mem) : Option Rv := some (s0, M)
def f_X6_worse_20 (M : Mem) : Option Rv := f_X6_worse_25 2 M
def f_X6_worse (p1 : Int32) (p2 : Int32) (M : Mem) : Option Rv := if p1 = 0 then (f_X6_worse_8 M) else if p2 = 0 then (f_X6_worse_8 M) else if p1 = 2 then (f_X6_worse_20 M) else if p2 = 2 then (f_X6_worse_20 M) else f_X6_worse_25 1 M
def f_X6_verdictBehind_64 (x3 : Int32) (M : Mem) : Option Rv := some (x3, M)
def f_X6_verdictBehind_18 : Nat → Nat → Int32 → Int32 → Int32 → Mem → Option Rv
  | 0, _, _, _, _, _ => none
  | n + 1, x1, x2, x3, x4, M => if x4 < (M x1 2) then (if x3 = 0 then (f_X6_verdictBehind_64 x3 M) else (f_X6_loadAlone x1 x4 M).bind fun q3 => (f_X0_behind q3.1 x2 q3.2).bind fun q4 => (f_X6_verdictOfForm q4.1 q4.2).bind fun q5 => (f_X6_worse x3 q5.1 q5.2).bind fun q6 => f_X6_verdictBehind_18 n x1 x2 q6.1 (x4 + 1) q6.2) else f_X6_verdictBehind_64 x3 M
def f_X6_verdictBehind (p1 : Nat) (p2 : Int32) (M : Mem) : Option Rv := if (M p1 1) = 2 then (f_X6_verdictBehind_18 fuelN p1 p2 1 0 M) else some (M p1 1, M)
def f_X6_signsToBlame_33 (k5 : Nat → Int32 → Int32 → Int32 → Mem → Option Rv) (x1 : Nat) (x2 : Int32) (x3 : Int32) (x4 : Int32) (M : Mem) : Option Rv := k5 x1 x2 x3 (x4 + 1) M
def f_X6_signsToBlame_5 : Nat → Nat → Int32 → Int32 → Int32 → Mem → Option Rv
  | 0, _, _, _, _, _ => none
  | n + 1, x1, x2, x3, x4, M => if x4 < 6 then ((f_X6_verdictBehind x1 (x2 ^^^ (1 <<< ((x4 : Int32) &&& 31))) M).bind fun q2 => if q2.1 = 0 then (f_X6_signsToBlame_33 (f_X6_signsToBlame_5 n) x1 x2 x3 x4 q2.2) else f_X6_signsToBlame_33 (f_X6_signsToBlame_5 n) x1 x2 (x3 ||| (1 <<< ((x4 : Int32) &&& 31))) x4 q2.2) else some (x3, M)
def f_X6_signsToBlame (p1 : Nat) (p2 : Int32) (M : Mem) : Option Rv := f_X6_signsToBlame_5 fuelN p1 p2 0 0 M
def f_X6_event_10 (M : Mem) : Option Rv := some ((-2), M)
def f_X6_event_166 (k59 : Int32 → Nat → Int32 → Int32 → Mem → Option Rv) (x1 : Int32) (x2 : Nat) (x3 : Int32) (x4 : Int32) (M : Mem) : Option Rv := k59 x1 x2 x3 (x4 + 1) M
def f_X6_event_160 (k59 : Int32 → Nat → Int32 → Int32 → Mem → Option Rv) (x1 : Int32) (x2 : Nat) (x3 : Int32) (x4 : Int32) (s0 : Int32) (s1 : Nat) (M : Mem) : Option Rv := (mpi M s1 4 s0).bind fun M1 => f_X6_event_166 k59 x1 x2 (x3 + 1) x4 M1
def f_X6_event_59 : Nat → Int32 → Nat → Int32 → Int32 → Mem → Option Rv
  | 0, _, _, _, _, _ => none
  | n + 1, x1, x2, x3, x4, M => (mlS (M 0 8)).bind fun c1 => if x4 < (M c1 2) then ((mlS (M 0 8)).bind fun c6 => (mlW c6 x4).bind fun c7 => (mlW x2 x4).bind fun c8 => if (M c7 0) = 0 then (f_X6_event_166 (f_X6_event_59 n) x1 x2 x3 x4 M) else (f_X6_rewriteParts c7 c8 x1 M).bind fun q10 => if q10.1 = 0 then (some ((-3), q10.2)) else if (q10.2 c7 1) = 2 then ((mlS (q10.2 0 8)).bind fun c13 => (f_X5_judge c8 (q10.2 c13 1) q10.2).bind fun q14 => if q14.1 = 0 then (f_X6_event_166 (f_X6_event_59 n) x1 x2 x3 x4 q14.2) else if (q14.2 c8 1) = 0 then ((f_X6_signsToBlame c7 x1 q14.2).bind fun q17 => f_X6_event_160 (f_X6_event_59 n) x1 x2 x3 x4 q17.1 c8 q17.2) else f_X6_event_160 (f_X6_event_59 n) x1 x2 x3 x4 0 c8 q14.2) else f_X6_event_166 (f_X6_event_59 n) x1 x2 x3 x4 q10.2) else (mst M (x2 + 1) 40 (M x2 1) x1).bind fun M3 => (mpi M3 x2 1 ((M3 x2 1) + 1)).bind fun M4 => (f_X6_recordAndGoOn M4).bind fun q5 => some (x3, q5.2)
def f_X6_event (p1 : Int32) (M : Mem) : Option Rv := if p1 < 0 then (f_X6_event_10 M) else if p1 < 64 then ((mlS (M 0 8)).bind fun c3 => if (M c3 0) = 0 then ((mlS (M 0 8)).bind fun c5 => if (M c5 1) < 40 then ((mlS (M 0 9)).bind fun c7 => (mlS (M 0 8)).bind fun c8 => (f_X4_copyFrom c7 c8 M).bind fun q9 => f_X6_event_59 fuelN p1 c7 0 0 q9.2) else some ((-3), M)) else some ((-4), M)) else f_X6_event_10 M
def f_X6_endParts_38 (k2 : Nat → Int32 → Mem → Option Rv) (x1 : Nat) (x2 : Int32) (s0 : Int32) (M : Mem) : Option Rv := (f_X3_save s0 x1 x2 M).bind fun q1 => k2 x1 (x2 + 1) q1.2
def f_X6_endParts_2 : Nat → Nat → Int32 → Mem → Option Rv
  | 0, _, _, _ => none
  | n + 1, x1, x2, M => if x2 < (M x1 2) then ((f_X6_loadAlone x1 x2 M).bind fun q2 => (mrd q2.2 7 2048 q2.1).bind fun v3 => if v3 = 0 then (f_X6_endParts_38 (f_X6_endParts_2 n) x1 x2 0 q2.2) else f_X6_endParts_38 (f_X6_endParts_2 n) x1 x2 1 q2.2) else some (0, M)
def f_X6_endParts (p1 : Nat) (M : Mem) : Option Rv := f_X6_endParts_2 fuelN p1 0 M
def f_X6_end_92 (k35 : Nat → Int32 → Int32 → Mem → Option Rv) (x1 : Nat) (x2 : Int32) (x3 : Int32) (M : Mem) : Option Rv := k35 x1 x2 (x3 + 1) M
def f_X6_end_35 : Nat → Nat → Int32 → Int32 → Mem → Option Rv
  | 0, _, _, _, _ => none
  | n + 1, x1, x2, x3, M => if x3 < (M x1 2) then ((mlW x1 x3).bind fun c3 => if (M c3 0) = 0 then (f_X6_end_92 (f_X6_end_35 n) x1 x2 x3 M) else if (M c3 1) = 2 then ((f_X6_endParts c3 M).bind fun q6 => (f_X5_verdictOfParts c3 q6.2).bind fun q7 => (mpi q7.2 c3 1 q7.1).bind fun M8 => f_X6_end_92 (f_X6_end_35 n) x1 (x2 + (M8 c3 1)) x3 M8) else f_X6_end_92 (f_X6_end_35 n) x1 x2 x3 M) else (f_X6_recordAndGoOn M).bind fun q2 => some (x2, q2.2)
def f_X6_end (M : Mem) : Option Rv := (mlS (M 0 8)).bind fun c1 => if (M c1 0) = 0 then ((mlS (M 0 9)).bind fun c3 => (mlS (M 0 8)).bind fun c4 => (f_X4_copyFrom c3 c4 M).bind fun q5 => (mpz q5.2 c3 0 1).bind fun M6 => f_X6_end_35 fuelN c3 0 0 M6) else some ((-4), M)
def f_X6_bring_106 (k82 : Int32 → Int32 → Int32 → Int32 → Nat → Int32 → Mem → Option Rv) (x1 : Int32) (x2 : Int32) (x3 : Int32) (x4 : Int32) (x5 : Nat) (x6 : Int32) (s0 : Int32) (M : Mem) : Option Rv := (mrd M 5 2048 s0).bind fun v1 => if 120 < v1 then (some ((-3), M)) else (f_X3_save s0 x5 x6 M).bind fun q3 => k82 x1 x2 x3 x4 x5 (x6 + 1) q3.2
def f_X6_bring_82 : Nat → Int32 → Int32 → Int32 → Int32 → Nat → Int32 → Mem → Option Rv
  | 0, _, _, _, _, _, _, _ => none
  | n + 1, x1, x2, x3, x4, x5, x6, M => if x6 < x3 then (if x2 = 0 then (f_X6_bring_106 (f_X6_bring_82 n) x1 x2 x3 x4 x5 x6 x1 M) else (f_X1_kid x1 x6 M).bind fun q8 => f_X6_bring_106 (f_X6_bring_82 n) x1 x2 x3 x4 x5 x6 q8.1 q8.2) else (mlS (M 0 8)).bind fun c2 => (f_X5_come x5 x3 (M c2 1) M).bind fun q3 => (mlS (q3.2 0 9)).bind fun c4 => (mpi q3.2 c4 2 ((q3.2 c4 2) + 1)).bind fun M5 => (f_X6_recordAndGoOn M5).bind fun q6 => some (x4, q6.2)
def f_X6_bring_37 (x1 : Int32) (x2 : Int32) (s0 : Int32) (M : Mem) : Option Rv := if 8 < s0 then (some ((-3), M)) else (mlS (M 0 8)).bind fun c2 => (mlS (M 0 9)).bind fun c3 => (mlS (M 0 8)).bind fun c4 => (f_X4_copyFrom c3 c4 M).bind fun q5 => (mlS (q5.2 0 9)).bind fun c6 => (mlW c6 (M c2 2)).bind fun c7 => f_X6_bring_82 fuelN x1 x2 s0 (M c2 2) c7 0 q5.2
def f_X6_bring_19 (x1 : Int32) (s0 : Int32) (M : Mem) : Option Rv := if s0 = 0 then (f_X6_bring_37 x1 s0 1 M) else (mrd M 4 2048 x1).bind fun v2 => f_X6_bring_37 x1 s0 v2 M
def f_X6_bring (p1 : Int32) (M : Mem) : Option Rv := (mrd M 2 2048 p1).bind fun v1 => if v1 = 20 then (f_X6_bring_19 p1 1 M) else f_X6_bring_19 p1 0 M
def f_X6_addWish (M : Mem) : Option Rv := (f_X2_findFault M).bind fun q1 => if q1.1 < 0 then ((mlS (q1.2 0 8)).bind fun c3 => if (q1.2 c3 0) = 0 then ((mlS (q1.2 0 8)).bind fun c5 => if (q1.2 c5 2) < 8 then ((f_X1_release 16 q1.2).bind fun q7 => (f_X2_read q7.2).bind fun q8 => (f_X6_bring q8.1 q8.2).bind fun q9 => some (q9.1, q9.2)) else some ((-3), q1.2)) else some ((-4), q1.2)) else some ((-100) - q1.1, q1.2)
def f_X6_allOfParts_11 : Nat → Nat → Int32 → Mem → Option Rv
  | 0, _, _, _ => none
  | n + 1, x1, x2, M => if x2 < (M x1 2) then ((f_X3_load x1 x2 M).bind fun q3 => (f_X0_put q3.1 q3.2).bind fun q4 => f_X6_allOfParts_11 n x1 (x2 + 1) q4.2) else (f_X0_done M).bind fun q2 => some (q2.1, q2.2)
def f_X6_allOfParts (p1 : Nat) (M : Mem) : Option Rv := (f_X0_begin 20 M).bind fun q1 => f_X6_allOfParts_11 fuelN p1 0 q1.2
def f_X6_join_30 (M : Mem) : Option Rv := some ((-1), M)
def f_X6_join_101 (x6 : Int32) (x7 : Int32) (s0 : Int32) (M : Mem) : Option Rv := (f_X0_two s0 x6 x7 M).bind fun q1 => (f_X6_bring q1.1 q1.2).bind fun q2 => some (q2.1, q2.2)
def f_X6_join (p1 : Int32) (p2 : Int32) (p3 : Int32) (M : Mem) : Option Rv := (mlS (M 0 8)).bind fun c1 => (f_X4_find c1 p1 M).bind fun q2 => (mlS (q2.2 0 8)).bind fun c3 => (f_X4_find c3 p2 q2.2).bind fun q4 => if q2.1 = 0 then (f_X6_join_30 q4.2) else if q4.1 = 0 then (f_X6_join_30 q4.2) else (mlS (q4.2 0 8)).bind fun c7 => if (q4.2 c7 0) = 0 then ((mlS (q4.2 0 8)).bind fun c9 => if (q4.2 c9 2) < 8 then ((f_X1_release 16 q4.2).bind fun q11 => (maW q2.1).bind fun c12 => (f_X6_allOfParts c12 q11.2).bind fun q13 => (maW q4.1).bind fun c14 => (f_X6_allOfParts c14 q13.2).bind fun q15 => if p3 = 0 then (f_X6_join_101 q13.1 q15.1 20 q15.2) else f_X6_join_101 q13.1 q15.1 21 q15.2) else some ((-3), q4.2)) else some ((-4), q4.2)
def f_X6_removeWish (p1 : Int32) (M : Mem) : Option Rv := (mlS (M 0 8)).bind fun c1 => (f_X4_find c1 p1 M).bind fun q2 => if q2.1 = 0 then (some ((-1), q2.2)) else (mlS (q2.2 0 9)).bind fun c4 => (mlS (q2.2 0 8)).bind fun c5 => (f_X4_copyFrom c4 c5 q2.2).bind fun q6 => (mlW c4 p1).bind fun c7 => (mpz q6.2 c7 0 0).bind fun M8 => (f_X6_recordAndGoOn M8).bind fun q9 => (mlS (q9.2 0 8)).bind fun c10 => (f_X4_howManyThere c10 q9.2).bind fun q11 => some (q11.1, q11.2)
def f_X6_type_23 (s0 : Int32) (M : Mem) : Option Rv := some (s0, M)
def f_X6_type (p1 : Int32) (M : Mem) : Option Rv := (f_X2_append p1 M).bind fun q1 => if q1.1 = 0 then (f_X6_type_23 (-3) q1.2) else f_X6_type_23 (q1.2 22 5) q1.2
def f_X6_clearText (M : Mem) : Option Rv := (mpi M 22 5 0).bind fun M1 => some (M 22 5, M1)
def f_X6_undo (M : Mem) : Option Rv := if (M 0 10) = 0 then (some ((-5), M)) else (mpi M 0 10 ((M 0 10) - 1)).bind fun M2 => (mrd M2 28 4 (M2 0 10)).bind fun v7 => (mlS v7).bind fun c3 => (mlS (M2 0 8)).bind fun c4 => (mst M2 28 4 (M2 0 10) (nI c4)).bind fun M5 => (mpi M5 0 8 (nI c3)).bind fun M6 => some (M6 0 10, M6)
def f_X6_keep (M : Mem) : Option Rv := (mlS (M 0 8)).bind fun c1 => (f_X4_copyFrom 29 c1 M).bind fun q2 => (mpz q2.2 0 11 1).bind fun M3 => (mlS (M3 0 8)).bind fun c4 => some (M3 c4 1, M3)
def f_X6_restore (M : Mem) : Option Rv := if (M 0 11) = 0 then (some ((-5), M)) else (mlS (M 0 9)).bind fun c2 => (f_X4_copyFrom c2 29 M).bind fun q3 => (f_X6_recordAndGoOn q3.2).bind fun q4 => (mlS (q4.2 0 8)).bind fun c5 => some (q4.2 c5 1, q4.2)
def f_X6_verdictIfEnded_15 : Nat → Nat → Int32 → Mem → Option Rv
  | 0, _, _, _ => none
  | n + 1, x1, x2, M => if x2 < (M x1 2) then ((f_X6_loadAlone x1 x2 M).bind fun q2 => (mrd q2.2 7 2048 q2.1).bind fun v3 => if v3 = 0 then (some (0, q2.2)) else f_X6_verdictIfEnded_15 n x1 (x2 + 1) q2.2) else some (1, M)
def f_X6_verdictIfEnded (p1 : Nat) (M : Mem) : Option Rv := if (M p1 1) = 2 then (f_X6_verdictIfEnded_15 fuelN p1 0 M) else some (M p1 1, M)
def f_X6_wish (p1 : Int32) (p2 : Int32) (M : Mem) : Option Rv := (mlS (M 0 8)).bind fun c1 => (f_X4_find c1 p1 M).bind fun q2 => if q2.1 = 0 then (some ((-1), q2.2)) else if p2 = 0 then ((maW q2.1).bind fun c5 => some (q2.2 c5 1, q2.2)) else if p2 = 1 then ((maW q2.1).bind fun c7 => some (q2.2 c7 2, q2.2)) else if p2 = 2 then ((maW q2.1).bind fun c9 => (f_X5_partsThatAre c9 0 q2.2).bind fun q10 => some (q10.1, q10.2)) else if p2 = 3 then ((maW q2.1).bind fun c12 => (f_X5_partsThatAre c12 1 q2.2).bind fun q13 => some (q13.1, q13.2)) else if p2 = 4 then ((maW q2.1).bind fun c15 => some (q2.2 c15 3, q2.2)) else if p2 = 5 then ((maW q2.1).bind fun c17 => some (q2.2 c17 4, q2.2)) else if p2 = 6 then ((maW q2.1).bind fun c19 => (f_X6_verdictIfEnded c19 q2.2).bind fun q20 => some (q20.1, q20.2)) else if p2 = 7 then ((maW q2.1).bind fun c22 => (f_X5_sizeOfParts c22 q2.2).bind fun q23 => some (q23.1, q23.2)) else if p2 = 8 then ((maW q2.1).bind fun c25 => some (q2.2 c25 5, q2.2)) else some ((-2), q2.2)
def f_X6_letter_28 (M : Mem) : Option Rv := some ((-1), M)
def f_X6_letter_69 (s0 : Int32) (M : Mem) : Option Rv := some (s0, M)
def f_X6_letter (p1 : Int32) (p2 : Int32) (p3 : Int32) (M : Mem) : Option Rv := (mlS (M 0 8)).bind fun c1 => (f_X4_find c1 p1 M).bind fun q2 => if q2.1 = 0 then (f_X6_letter_28 q2.2) else if p2 < 0 then (f_X6_letter_28 q2.2) else (maW q2.1).bind fun c5 => if p2 < (q2.2 c5 2) then (if p3 < 0 then (some ((-2), q2.2)) else (f_X3_spell c5 p2 q2.2).bind fun q8 => if p3 < q8.1 then ((mrd q8.2 19 360 p3).bind fun v10 => f_X6_letter_69 v10 q8.2) else f_X6_letter_69 (-5) q8.2) else f_X6_letter_28 q2.2
def f_X6_part_28 (M : Mem) : Option Rv := some ((-1), M)
def f_X6_part_118 (s0 : Int32) (M : Mem) : Option Rv := some (s0, M)
def f_X6_part (p1 : Int32) (p2 : Int32) (p3 : Int32) (M : Mem) : Option Rv := (mlS (M 0 8)).bind fun c1 => (f_X4_find c1 p1 M).bind fun q2 => if q2.1 = 0 then (f_X6_part_28 q2.2) else if p2 < 0 then (f_X6_part_28 q2.2) else (maW q2.1).bind fun c5 => if p2 < (q2.2 c5 2) then (if p3 = 0 then ((mrd q2.2 (c5 + 1) 8 p2).bind fun v8 => some (v8, q2.2)) else if p3 = 1 then ((f_X3_spell c5 p2 q2.2).bind fun q10 => some (q10.1, q10.2)) else if p3 = 2 then ((f_X6_loadAlone c5 p2 q2.2).bind fun q12 => (mrd q12.2 6 2048 q12.1).bind fun v13 => some (v13, q12.2)) else if p3 = 3 then ((f_X6_loadAlone c5 p2 q2.2).bind fun q15 => (mrd q15.2 7 2048 q15.1).bind fun v16 => if v16 = 0 then (f_X6_part_118 0 q15.2) else f_X6_part_118 1 q15.2) else some ((-2), q2.2)) else f_X6_part_28 q2.2
def f_X6_would_25 (M : Mem) : Option Rv := some ((-2), M)
def f_X6_would (p1 : Int32) (p2 : Int32) (M : Mem) : Option Rv := (mlS (M 0 8)).bind fun c1 => (f_X4_find c1 p1 M).bind fun q2 => if q2.1 = 0 then (some ((-1), q2.2)) else if p2 < 0 then (f_X6_would_25 q2.2) else if p2 < 64 then ((mlS (q2.2 0 8)).bind fun c6 => if (q2.2 c6 0) = 0 then ((maW q2.1).bind fun c8 => (f_X6_verdictBehind c8 p2 q2.2).bind fun q9 => some (q9.1, q9.2)) else some ((-4), q2.2)) else f_X6_would_25 q2.2
def f_X6_addOutcomesOfPart_76 (k30 : Int32 → Int32 → Int32 → Int32 → Mem → Option Rv) (x3 : Int32) (x4 : Int32) (x5 : Int32) (x6 : Int32) (M : Mem) : Option Rv := (mrd M 26 64 x6).bind fun v1 => (mrd M 27 64 (x6 &&& x4)).bind fun v2 => (f_X6_worse v1 v2 M).bind fun q3 => (mst q3.2 26 64 x6 q3.1).bind fun M4 => k30 x3 x4 x5 (x6 + 1) M4
def f_X6_addOutcomesOfPart_30 : Nat → Int32 → Int32 → Int32 → Int32 → Mem → Option Rv
  | 0, _, _, _, _, _ => none
  | n + 1, x3, x4, x5, x6, M => if x6 < 64 then (if (x6 &&& x4) = x6 then ((f_X0_behind x3 x6 M).bind fun q3 => (f_X6_verdictOfForm q3.1 q3.2).bind fun q4 => (mst q4.2 27 64 x6 q4.1).bind fun M5 => (f_X1_release x5 M5).bind fun q6 => f_X6_addOutcomesOfPart_76 (f_X6_addOutcomesOfPart_30 n) x3 x4 x5 x6 q6.2) else f_X6_addOutcomesOfPart_76 (f_X6_addOutcomesOfPart_30 n) x3 x4 x5 x6 M) else some (0, M)
def f_X6_addOutcomesOfPart (p1 : Nat) (p2 : Int32) (M : Mem) : Option Rv := (f_X6_loadAlone p1 p2 M).bind fun q1 => (mrd q1.2 6 2048 q1.1).bind fun v2 => f_X6_addOutcomesOfPart_30 fuelN q1.1 v2 (q1.2 1 11) 0 q1.2
def f_X6_findOutcomes_29 (k2 : Nat → Int32 → Mem → Option Rv) (x1 : Nat) (x2 : Int32) (s0 : Int32) (s1 : Int32) (M : Mem) : Option Rv := (mst M 26 64 s1 s0).bind fun M1 => k2 x1 (x2 + 1) M1
def f_X6_findOutcomes_66 (M : Mem) : Option Rv := some (0, M)
def f_X6_findOutcomes_46 : Nat → Nat → Int32 → Mem → Option Rv
  | 0, _, _, _ => none
  | n + 1, x1, x2, M => if x2 < (M x1 2) then ((f_X6_addOutcomesOfPart x1 x2 M).bind fun q2 => f_X6_findOutcomes_46 n x1 (x2 + 1) q2.2) else f_X6_findOutcomes_66 M
def f_X6_findOutcomes_2 : Nat → Nat → Int32 → Mem → Option Rv
  | 0, _, _, _ => none
  | n + 1, x1, x2, M => if x2 < 64 then (if (M x1 1) = 2 then (f_X6_findOutcomes_29 (f_X6_findOutcomes_2 n) x1 x2 1 x2 M) else f_X6_findOutcomes_29 (f_X6_findOutcomes_2 n) x1 x2 (M x1 1) x2 M) else if (M x1 1) = 2 then (f_X6_findOutcomes_46 fuelN x1 0 M) else f_X6_findOutcomes_66 M
def f_X6_findOutcomes (p1 : Nat) (M : Mem) : Option Rv := f_X6_findOutcomes_2 fuelN p1 0 M
def f_X6_bears_24 (M : Mem) : Option Rv := some ((-2), M)
def f_X6_bears_114 (x5 : Int32) (M : Mem) : Option Rv := some (x5, M)
def f_X6_bears_125 (k51 : Int32 → Int32 → Int32 → Mem → Option Rv) (x2 : Int32) (x4 : Int32) (x5 : Int32) (M : Mem) : Option Rv := k51 x2 x4 (x5 + 1) M
def f_X6_bears_117 (k51 : Int32 → Int32 → Int32 → Mem → Option Rv) (x2 : Int32) (x4 : Int32) (x5 : Int32) (x6 : Int32) (M : Mem) : Option Rv := if x6 = 0 then (f_X6_bears_125 k51 x2 x4 x5 M) else f_X6_bears_125 k51 x2 (x4 + 1) x5 M
def f_X6_bears_97 (k51 : Int32 → Int32 → Int32 → Mem → Option Rv) (x2 : Int32) (x4 : Int32) (x5 : Int32) (s0 : Int32) (M : Mem) : Option Rv := if s0 = 0 then (f_X6_bears_117 k51 x2 x4 x5 s0 M) else if x2 = 1 then (f_X6_bears_114 x5 M) else if x2 = 3 then (f_X6_bears_114 x5 M) else f_X6_bears_117 k51 x2 x4 x5 s0 M
def f_X6_bears_148 (s0 : Int32) (M : Mem) : Option Rv := some (s0, M)
def f_X6_bears_141 (M : Mem) : Option Rv := f_X6_bears_148 (-5) M
def f_X6_bears_51 : Nat → Int32 → Int32 → Int32 → Mem → Option Rv
  | 0, _, _, _, _ => none
  | n + 1, x2, x4, x5, M => if x5 < 64 then (if x2 < 2 then ((mrd M 26 64 x5).bind fun v7 => if v7 = 0 then (f_X6_bears_97 (f_X6_bears_51 n) x2 x4 x5 0 M) else f_X6_bears_97 (f_X6_bears_51 n) x2 x4 x5 1 M) else (mrd M 26 64 x5).bind fun v5 => if v5 = 1 then (f_X6_bears_97 (f_X6_bears_51 n) x2 x4 x5 1 M) else f_X6_bears_97 (f_X6_bears_51 n) x2 x4 x5 0 M) else if x2 = 1 then (f_X6_bears_141 M) else if x2 = 3 then (f_X6_bears_141 M) else f_X6_bears_148 x4 M
def f_X6_bears (p1 : Int32) (p2 : Int32) (M : Mem) : Option Rv := (mlS (M 0 8)).bind fun c1 => (f_X4_find c1 p1 M).bind fun q2 => if q2.1 = 0 then (some ((-1), q2.2)) else if p2 < 0 then (f_X6_bears_24 q2.2) else if 3 < p2 then (f_X6_bears_24 q2.2) else (mlS (q2.2 0 8)).bind fun c6 => if (q2.2 c6 0) = 0 then ((maW q2.1).bind fun c8 => (f_X6_findOutcomes c8 q2.2).bind fun q9 => f_X6_bears_51 fuelN p2 0 0 q9.2) else some ((-4), q2.2)
def f_X6_open_45 (k9 : Int32 → Int32 → Mem → Option Rv) (x1 : Int32) (x2 : Int32) (M : Mem) : Option Rv := k9 x1 (x2 + 1) M
def f_X6_open_9 : Nat → Int32 → Int32 → Mem → Option Rv
  | 0, _, _, _ => none
  | n + 1, x1, x2, M => (mlS (M 0 8)).bind fun c1 => if x2 < (M c1 2) then ((mlS (M 0 8)).bind fun c3 => (f_X4_isOpen c3 x2 M).bind fun q4 => if q4.1 = 0 then (f_X6_open_45 (f_X6_open_9 n) x1 x2 q4.2) else (mlS (q4.2 0 8)).bind fun c6 => (f_X4_rankOfOpen c6 x2 q4.2).bind fun q7 => if q7.1 = x1 then (some (x2, q7.2)) else f_X6_open_45 (f_X6_open_9 n) x1 x2 q7.2) else some ((-5), M)
def f_X6_open (p1 : Int32) (M : Mem) : Option Rv := if p1 < 0 then (some ((-2), M)) else f_X6_open_9 fuelN p1 0 M
def f_X6_at_32 (s0 : Int32) (M : Mem) : Option Rv := some (s0, M)
def f_X6_at (p1 : Int32) (M : Mem) : Option Rv := if p1 < 0 then (some ((-2), M)) else (mlS (M 0 8)).bind fun c2 => if p1 < (M c2 1) then ((mlS (M 0 8)).bind fun c4 => (mrd M (c4 + 1) 40 p1).bind fun v5 => f_X6_at_32 v5 M) else f_X6_at_32 (-5) M
def f_X6_count_75 (s0 : Int32) (M : Mem) : Option Rv := some (s0, M)
def f_X6_count (p1 : Int32) (M : Mem) : Option Rv := if p1 = 0 then ((mlS (M 0 8)).bind fun c2 => some (M c2 1, M)) else if p1 = 1 then ((mlS (M 0 8)).bind fun c4 => if (M c4 0) = 0 then (f_X6_count_75 0 M) else f_X6_count_75 1 M) else if p1 = 2 then ((mlS (M 0 8)).bind fun c7 => (f_X4_howManyThere c7 M).bind fun q8 => some (q8.1, q8.2)) else if p1 = 3 then ((mlS (M 0 8)).bind fun c10 => some (M c10 2, M)) else if p1 = 4 then ((mlS (M 0 8)).bind fun c12 => (f_X4_howMany c12 2 M).bind fun q13 => some (q13.1, q13.2)) else if p1 = 5 then ((mlS (M 0 8)).bind fun c15 => (f_X4_howMany c15 0 M).bind fun q16 => some (q16.1, q16.2)) else if p1 = 6 then ((mlS (M 0 8)).bind fun c18 => (f_X4_howMany c18 1 M).bind fun q19 => some (q19.1, q19.2)) else if p1 = 7 then (some (M 0 10, M)) else if p1 = 8 then (some (M 22 5, M)) else some ((-2), M)
def f_X7_in_15 (s0 : Int32) (M : Mem) : Option Rv := mrz s0 M
def f_X7_in_14 (M : Mem) : Option Rv := f_X7_in_15 0 M
def f_X7_in (p1 : Int32) (p2 : Int32) (p3 : Int32) (M : Mem) : Option Rv := if p1 < p2 then (f_X7_in_14 M) else if p3 < p1 then (f_X7_in_14 M) else f_X7_in_15 1 M
def f_X7_record_50 : Nat → Int32 → Mem → Option Rv
  | 0, _, _ => none
  | n + 1, x1, M => if x1 < 31088 then ((mrd M 219 31088 x1).bind fun v3 => (mst M 220 124352 ((31088 * (M 218 24)) + x1) v3).bind fun M4 => f_X7_record_50 n (x1 + 1) M4) else (mpi M 218 24 ((M 218 24) + 1)).bind fun M2 => some (0, M2)
def f_X7_record_48 (M : Mem) : Option Rv := f_X7_record_50 fuelN 0 M
def f_X7_record_10 : Nat → Int32 → Mem → Option Rv
  | 0, _, _ => none
  | n + 1, x1, M => if x1 < 93264 then ((mrd M 220 124352 (31088 + x1)).bind fun v3 => (mst M 220 124352 x1 v3).bind fun M4 => f_X7_record_10 n (x1 + 1) M4) else (mpi M 218 24 ((M 218 24) - 1)).bind fun M2 => f_X7_record_48 M2
def f_X7_record (M : Mem) : Option Rv := if (M 218 24) = 4 then (f_X7_record_10 fuelN 0 M) else f_X7_record_48 M
def f_X7_w (p1 : Int32) (M : Mem) : Option Rv := some (48 + (8 * p1), M)
def f_X7_cell (p1 : Int32) (p2 : Int32) (p3 : Int32) (M : Mem) : Option Rv := some ((112 + (484 * ((8 * p1) + p2))) + p3, M)
def f_X7_isThere_36 (s0 : Int32) (M : Mem) : Option Rv := mrz s0 M
def f_X7_isThere_35 (M : Mem) : Option Rv := f_X7_isThere_36 0 M
def f_X7_isThere (p1 : Int32) (M : Mem) : Option Rv := (mrd M 219 31088 2).bind fun v1 => (f_X7_in p1 0 (v1 - 1) M).bind fun q2 => if q2.1 = 0 then (f_X7_isThere_35 q2.2) else (f_X7_w p1 q2.2).bind fun q4 => (mrd q4.2 219 31088 (q4.1 + 0)).bind fun v5 => if v5 = 1 then (f_X7_isThere_36 1 q4.2) else f_X7_isThere_35 q4.2
def f_X7_verdict (p1 : Int32) (M : Mem) : Option Rv := (f_X7_w p1 M).bind fun q1 => (mrd q1.2 219 31088 (q1.1 + 1)).bind fun v2 => some (v2, q1.2)
def f_X7_empty_49 (k13 : Int32 → Mem → Option Rv) (x1 : Int32) (s0 : Int32) (s1 : Int32) (M : Mem) : Option Rv := (mst M 226 8000 s1 s0).bind fun M1 => k13 (x1 + 1) M1
def f_X7_empty_13 : Nat → Int32 → Mem → Option Rv
  | 0, _, _ => none
  | n + 1, x1, M => if x1 < 16 then ((mst M 222 8000 x1 0).bind fun M2 => (mst M2 225 8000 x1 1).bind fun M3 => if x1 < 10 then (f_X7_empty_49 (f_X7_empty_13 n) x1 1 x1 M3) else f_X7_empty_49 (f_X7_empty_13 n) x1 2 x1 M3) else some (0, M)
def f_X7_empty (M : Mem) : Option Rv := (mpi M 218 11 16).bind fun M1 => (mpi M1 218 12 0).bind fun M2 => f_X7_empty_13 fuelN 0 M2
def f_X7_childMany_44 (s0 : Int32) (M : Mem) : Option Rv := some (s0, M)
def f_X7_childMany (p1 : Int32) (M : Mem) : Option Rv := if p1 < 16 then (f_X7_childMany_44 0 M) else (mrd M 222 8000 p1).bind fun v2 => if v2 < 3 then (f_X7_childMany_44 1 M) else (mrd M 222 8000 p1).bind fun v4 => if v4 < 5 then (f_X7_childMany_44 2 M) else (mrd M 224 8000 p1).bind fun v6 => f_X7_childMany_44 v6 M
def f_X7_child_45 (s0 : Int32) (M : Mem) : Option Rv := some (s0, M)
def f_X7_child (p1 : Int32) (p2 : Int32) (M : Mem) : Option Rv := (mrd M 222 8000 p1).bind fun v1 => if v1 < 5 then (if p2 = 0 then ((mrd M 223 8000 p1).bind fun v5 => f_X7_child_45 v5 M) else (mrd M 224 8000 p1).bind fun v4 => f_X7_child_45 v4 M) else (mrd M 223 8000 p1).bind fun v6 => (mrd M 229 90000 (v6 + p2)).bind fun v7 => f_X7_child_45 v7 M
def f_X7_make_49 (k4 : Int32 → Int32 → Int32 → Int32 → Mem → Option Rv) (x1 : Int32) (x2 : Int32) (x3 : Int32) (x4 : Int32) (M : Mem) : Option Rv := k4 x1 x2 x3 (x4 + 1) M
def f_X7_make_157 (s0 : Int32) (s1 : Int32) (M : Mem) : Option Rv := (mst M 226 8000 s1 s0).bind fun M1 => (mpi M1 218 11 ((M1 218 11) + 1)).bind fun M2 => some ((M2 218 11) - 1, M2)
def f_X7_make_116 (x1 : Int32) (x2 : Int32) (x3 : Int32) (s0 : Int32) (s1 : Int32) (s2 : Int32) (M : Mem) : Option Rv := (mst M 225 8000 s2 (s1 + s0)).bind fun M1 => if x1 < 3 then ((mrd M1 226 8000 x2).bind fun v5 => f_X7_make_157 (1 + v5) (M1 218 11) M1) else (mrd M1 226 8000 x2).bind fun v3 => (mrd M1 226 8000 x3).bind fun v4 => f_X7_make_157 ((3 + v3) + v4) (M1 218 11) M1
def f_X7_make_4 : Nat → Int32 → Int32 → Int32 → Int32 → Mem → Option Rv
  | 0, _, _, _, _, _ => none
  | n + 1, x1, x2, x3, x4, M => if x4 < (M 218 11) then ((mrd M 222 8000 x4).bind fun v8 => if v8 = x1 then ((mrd M 223 8000 x4).bind fun v10 => if v10 = x2 then ((mrd M 224 8000 x4).bind fun v12 => if v12 = x3 then (some (x4, M)) else f_X7_make_49 (f_X7_make_4 n) x1 x2 x3 x4 M) else f_X7_make_49 (f_X7_make_4 n) x1 x2 x3 x4 M) else f_X7_make_49 (f_X7_make_4 n) x1 x2 x3 x4 M) else (mst M 222 8000 (M 218 11) x1).bind fun M2 => (mst M2 223 8000 (M2 218 11) x2).bind fun M3 => (mst M3 224 8000 (M3 218 11) x3).bind fun M4 => (mrd M4 225 8000 x2).bind fun v5 => if x1 < 3 then (f_X7_make_116 x1 x2 x3 0 (1 + v5) (M4 218 11) M4) else (mrd M4 225 8000 x3).bind fun v7 => f_X7_make_116 x1 x2 x3 v7 (1 + v5) (M4 218 11) M4
def f_X7_make (p1 : Int32) (p2 : Int32) (p3 : Int32) (M : Mem) : Option Rv := f_X7_make_4 fuelN p1 p2 p3 16 M
def f_X7_isList_74 (k32 : Int32 → Int32 → Int32 → Mem → Option Rv) (x1 : Int32) (x4 : Int32) (s0 : Int32) (M : Mem) : Option Rv := k32 x1 s0 (x4 + 1) M
def f_X7_isList_81 (x3 : Int32) (M : Mem) : Option Rv := mrz x3 M
def f_X7_isList_32 : Nat → Int32 → Int32 → Int32 → Mem → Option Rv
  | 0, _, _, _, _ => none
  | n + 1, x1, x3, x4, M => if x4 < (M 218 14) then (if x3 = 0 then (f_X7_isList_81 x3 M) else (mrd M 223 8000 x1).bind fun v3 => (mrd M 229 90000 (v3 + x4)).bind fun v4 => (mrd M 230 4000 x4).bind fun v5 => if v4 = v5 then (f_X7_isList_74 (f_X7_isList_32 n) x1 x4 1 M) else f_X7_isList_74 (f_X7_isList_32 n) x1 x4 0 M) else f_X7_isList_81 x3 M
def f_X7_isList_28 (x1 : Int32) (s0 : Int32) (M : Mem) : Option Rv := f_X7_isList_32 fuelN x1 s0 0 M
def f_X7_isList_27 (x1 : Int32) (M : Mem) : Option Rv := f_X7_isList_28 x1 0 M
def f_X7_isList (p1 : Int32) (p2 : Int32) (M : Mem) : Option Rv := (mrd M 222 8000 p1).bind fun v1 => if v1 = p2 then ((mrd M 224 8000 p1).bind fun v3 => if v3 = (M 218 14) then (f_X7_isList_28 p1 1 M) else f_X7_isList_27 p1 M) else f_X7_isList_27 p1 M
def f_X7_makeList_91 : Nat → Int32 → Mem → Option Rv
  | 0, _, _ => none
  | n + 1, x2, M => if x2 < (M 218 14) then ((mrd M 230 4000 x2).bind fun v3 => (mst M 229 90000 (M 218 12) v3).bind fun M4 => (mpi M4 218 12 ((M4 218 12) + 1)).bind fun M5 => (mrd M5 225 8000 (M5 218 11)).bind fun v6 => (mrd M5 230 4000 x2).bind fun v7 => (mrd M5 225 8000 v7).bind fun v8 => (mst M5 225 8000 (M5 218 11) (v6 + v8)).bind fun M9 => (mrd M9 226 8000 (M9 218 11)).bind fun v10 => (mrd M9 230 4000 x2).bind fun v11 => (mrd M9 226 8000 v11).bind fun v12 => (mst M9 226 8000 (M9 218 11) (v10 + v12)).bind fun M13 => f_X7_makeList_91 n (x2 + 1) M13) else (mpi M 218 11 ((M 218 11) + 1)).bind fun M2 => some ((M2 218 11) - 1, M2)
def f_X7_makeList_3 : Nat → Int32 → Int32 → Mem → Option Rv
  | 0, _, _, _ => none
  | n + 1, x1, x2, M => if x2 < (M 218 11) then ((f_X7_isList x2 x1 M).bind fun q7 => if q7.1 = 0 then (f_X7_makeList_3 n x1 (x2 + 1) q7.2) else some (x2, q7.2)) else (mst M 222 8000 (M 218 11) x1).bind fun M2 => (mst M2 223 8000 (M2 218 11) (M2 218 12)).bind fun M3 => (mst M3 224 8000 (M3 218 11) (M3 218 14)).bind fun M4 => (mst M4 225 8000 (M4 218 11) 1).bind fun M5 => (mst M5 226 8000 (M5 218 11) (1 + (M5 218 14))).bind fun M6 => f_X7_makeList_91 fuelN 0 M6
def f_X7_makeList (p1 : Int32) (M : Mem) : Option Rv := f_X7_makeList_3 fuelN p1 16 M
def f_X7_begins_38 (s0 : Int32) (M : Mem) : Option Rv := some (s0, M)
def f_X7_begins_88 (s0 : Int32) (M : Mem) : Option Rv := some (s0, M)
def f_X7_begins (p1 : Int32) (M : Mem) : Option Rv := if p1 < 16 then (if p1 < 2 then (f_X7_begins_88 (48 + p1) M) else if p1 = 2 then (f_X7_begins_88 62 M) else if p1 = 3 then (f_X7_begins_88 46 M) else if p1 < 10 then (f_X7_begins_88 ((97 + p1) - 4) M) else f_X7_begins_88 45 M) else (mrd M 222 8000 p1).bind fun v6 => if v6 = 1 then (f_X7_begins_38 88 M) else (mrd M 222 8000 p1).bind fun v8 => if v8 = 2 then (f_X7_begins_38 78 M) else f_X7_begins_38 40 M
def f_X7_behind_61 (s0 : Int32) (M : Mem) : Option Rv := some (s0, M)
def f_X7_behind (p1 : Int32) (p2 : Int32) (M : Mem) : Option Rv := (f_X7_childMany p1 M).bind fun q1 => if p2 = (q1.1 - 1) then (some (41, q1.2)) else (mrd q1.2 222 8000 p1).bind fun v3 => if v3 = 3 then (f_X7_behind_61 85 q1.2) else (mrd q1.2 222 8000 p1).bind fun v5 => if v5 = 4 then (f_X7_behind_61 82 q1.2) else (mrd q1.2 222 8000 p1).bind fun v7 => if v7 = 5 then (f_X7_behind_61 38 q1.2) else f_X7_behind_61 124 q1.2
def f_X7_isAhead_121 (s0 : Int32) (M : Mem) : Option Rv := mrz s0 M
def f_X7_isAhead_80 (k5 : Int32 → Int32 → Mem → Option Rv) (x3 : Int32) (x4 : Int32) (x5 : Int32) (M : Mem) : Option Rv := (f_X7_child x3 x5 M).bind fun q1 => (f_X7_child x4 x5 q1.2).bind fun q2 => if q1.1 = q2.1 then ((f_X7_behind x3 x5 q2.2).bind fun q6 => (f_X7_behind x4 x5 q6.2).bind fun q7 => if q6.1 < q7.1 then (f_X7_isAhead_121 1 q7.2) else f_X7_isAhead_121 0 q7.2) else (f_X7_child x3 x5 q2.2).bind fun q4 => (f_X7_child x4 x5 q4.2).bind fun q5 => k5 q4.1 q5.1 q5.2
def f_X7_isAhead_28 (k5 : Int32 → Int32 → Mem → Option Rv) : Nat → Int32 → Int32 → Int32 → Mem → Option Rv
  | 0, _, _, _, _ => none
  | n + 1, x3, x4, x5, M => (f_X7_child x3 x5 M).bind fun q1 => (f_X7_child x4 x5 q1.2).bind fun q2 => if q1.1 = q2.1 then ((f_X7_begins x3 q2.2).bind fun q4 => if q4.1 = 40 then ((f_X7_behind x3 x5 q4.2).bind fun q6 => (f_X7_behind x4 x5 q6.2).bind fun q7 => if q6.1 = q7.1 then (f_X7_isAhead_28 k5 n x3 x4 (x5 + 1) q7.2) else f_X7_isAhead_80 k5 x3 x4 x5 q7.2) else f_X7_isAhead_80 k5 x3 x4 x5 q4.2) else f_X7_isAhead_80 k5 x3 x4 x5 q2.2
def f_X7_isAhead_194 (s0 : Int32) (M : Mem) : Option Rv := mrz s0 M
def f_X7_isAhead_147 (x3 : Int32) (x4 : Int32) (M : Mem) : Option Rv := (f_X7_begins x3 M).bind fun q1 => (f_X7_begins x4 q1.2).bind fun q2 => if q1.1 = q2.1 then (if x3 < x4 then (f_X7_isAhead_194 1 q2.2) else f_X7_isAhead_194 0 q2.2) else (f_X7_begins x3 q2.2).bind fun q4 => (f_X7_begins x4 q4.2).bind fun q5 => if q4.1 < q5.1 then (f_X7_isAhead_194 1 q5.2) else f_X7_isAhead_194 0 q5.2
def f_X7_isAhead_5 : Nat → Int32 → Int32 → Mem → Option Rv
  | 0, _, _, _ => none
  | n + 1, x3, x4, M => (f_X7_begins x3 M).bind fun q1 => (f_X7_begins x4 q1.2).bind fun q2 => if q1.1 = q2.1 then (if x3 < 16 then (f_X7_isAhead_147 x3 x4 q2.2) else f_X7_isAhead_28 (f_X7_isAhead_5 n) fuelN x3 x4 0 q2.2) else f_X7_isAhead_147 x3 x4 q2.2
def f_X7_isAhead (p1 : Int32) (p2 : Int32) (M : Mem) : Option Rv := f_X7_isAhead_5 fuelN p1 p2 M
def f_X7_beginPut (M : Mem) : Option Rv := (mpi M 218 14 0).bind fun M1 => (mpz M1 218 15 0).bind fun M2 => some (0, M2)
def f_X7_counter_56 (s0 : Int32) (M : Mem) : Option Rv := some (s0, M)
def f_X7_counter_55 (M : Mem) : Option Rv := f_X7_counter_56 (-1) M
def f_X7_counter_36 (x0 : Int32) (M : Mem) : Option Rv := if x0 < 10 then (f_X7_counter_55 M) else if x0 < 16 then (f_X7_counter_56 (x0 - 6) M) else f_X7_counter_55 M
def f_X7_counter (p1 : Int32) (M : Mem) : Option Rv := if p1 = 2 then (f_X7_counter_56 3 M) else if p1 = 3 then (f_X7_counter_56 2 M) else if p1 < 4 then (f_X7_counter_36 p1 M) else if p1 < 10 then (f_X7_counter_56 (p1 + 6) M) else f_X7_counter_36 p1 M
def f_X7_putOne_34 (s0 : Int32) (M : Mem) : Option Rv := (mpz M 218 15 s0).bind fun M1 => some (0, M1)
def f_X7_putOne_29 (M : Mem) : Option Rv := f_X7_putOne_34 1 M
def f_X7_putOne_106 (k47 : Int32 → Int32 → Int32 → Int32 → Mem → Option Rv) (x2 : Int32) (x4 : Int32) (x5 : Int32) (x6 : Int32) (s0 : Int32) (M : Mem) : Option Rv := (mpz M 218 15 s0).bind fun M1 => k47 x2 x4 x5 (x6 + 1) M1
def f_X7_putOne_101 (k47 : Int32 → Int32 → Int32 → Int32 → Mem → Option Rv) (x2 : Int32) (x4 : Int32) (x5 : Int32) (x6 : Int32) (M : Mem) : Option Rv := f_X7_putOne_106 k47 x2 x4 x5 x6 1 M
def f_X7_putOne_77 (k47 : Int32 → Int32 → Int32 → Int32 → Mem → Option Rv) (x2 : Int32) (x4 : Int32) (x6 : Int32) (s0 : Int32) (M : Mem) : Option Rv := if (M 218 15) = 0 then ((mrd M 230 4000 x6).bind fun v2 => (f_X7_counter x2 M).bind fun q3 => if v2 = q3.1 then (f_X7_putOne_101 k47 x2 x4 s0 x6 q3.2) else f_X7_putOne_106 k47 x2 x4 s0 x6 0 q3.2) else f_X7_putOne_101 k47 x2 x4 s0 x6 M
def f_X7_putOne_72 (k47 : Int32 → Int32 → Int32 → Int32 → Mem → Option Rv) (x2 : Int32) (x4 : Int32) (x6 : Int32) (M : Mem) : Option Rv := f_X7_putOne_77 k47 x2 x4 x6 1 M
def f_X7_putOne_157 : Nat → Int32 → Int32 → Int32 → Mem → Option Rv
  | 0, _, _, _, _ => none
  | n + 1, x2, x4, x6, M => if x4 < x6 then ((mrd M 230 4000 (x6 - 1)).bind fun v4 => (mst M 230 4000 x6 v4).bind fun M5 => f_X7_putOne_157 n x2 x4 (x6 - 1) M5) else (mst M 230 4000 x4 x2).bind fun M2 => (mpi M2 218 14 ((M2 218 14) + 1)).bind fun M3 => some (0, M3)
def f_X7_putOne_151 (x2 : Int32) (x4 : Int32) (M : Mem) : Option Rv := f_X7_putOne_157 fuelN x2 x4 (M 218 14) M
def f_X7_putOne_121 : Nat → Int32 → Int32 → Mem → Option Rv
  | 0, _, _, _ => none
  | n + 1, x2, x4, M => if x4 < (M 218 14) then ((mrd M 230 4000 x4).bind fun v2 => (f_X7_isAhead v2 x2 M).bind fun q3 => if q3.1 = 0 then (f_X7_putOne_151 x2 x4 q3.2) else f_X7_putOne_121 n x2 (x4 + 1) q3.2) else f_X7_putOne_151 x2 x4 M
def f_X7_putOne_47 : Nat → Int32 → Int32 → Int32 → Int32 → Mem → Option Rv
  | 0, _, _, _, _, _ => none
  | n + 1, x2, x4, x5, x6, M => if x6 < (M 218 14) then (if x5 = 0 then ((mrd M 230 4000 x6).bind fun v4 => if v4 = x2 then (f_X7_putOne_72 (f_X7_putOne_47 n) x2 x4 x6 M) else f_X7_putOne_77 (f_X7_putOne_47 n) x2 x4 x6 0 M) else f_X7_putOne_72 (f_X7_putOne_47 n) x2 x4 x6 M) else if x5 = 0 then (f_X7_putOne_121 fuelN x2 x4 M) else some (0, M)
def f_X7_putOne_10 (x2 : Int32) (s0 : Int32) (M : Mem) : Option Rv := if x2 < 2 then (if (M 218 15) = 0 then (if x2 = s0 then (f_X7_putOne_34 0 M) else f_X7_putOne_29 M) else f_X7_putOne_29 M) else f_X7_putOne_47 fuelN x2 0 0 0 M
def f_X7_putOne (p1 : Int32) (p2 : Int32) (M : Mem) : Option Rv := if p1 = 5 then (f_X7_putOne_10 p2 1 M) else f_X7_putOne_10 p2 0 M
def f_X7_putIn_61 (M : Mem) : Option Rv := some (0, M)
def f_X7_putIn_18 : Nat → Int32 → Int32 → Int32 → Mem → Option Rv
  | 0, _, _, _, _ => none
  | n + 1, x1, x2, x3, M => (mrd M 224 8000 x2).bind fun v1 => if x3 < v1 then ((mrd M 223 8000 x2).bind fun v3 => (mrd M 229 90000 (v3 + x3)).bind fun v4 => (f_X7_putOne x1 v4 M).bind fun q5 => f_X7_putIn_18 n x1 x2 (x3 + 1) q5.2) else f_X7_putIn_61 M
def f_X7_putIn_55 (x1 : Int32) (x2 : Int32) (M : Mem) : Option Rv := (f_X7_putOne x1 x2 M).bind fun q1 => f_X7_putIn_61 q1.2
def f_X7_putIn (p1 : Int32) (p2 : Int32) (M : Mem) : Option Rv := if p2 < 16 then (f_X7_putIn_55 p1 p2 M) else (mrd M 222 8000 p2).bind fun v2 => if v2 = p1 then (f_X7_putIn_18 fuelN p1 p2 0 M) else f_X7_putIn_55 p1 p2 M
def f_X7_endPut_57 (s0 : Int32) (M : Mem) : Option Rv := some (s0, M)
def f_X7_endPut_10 (x1 : Int32) (s0 : Int32) (M : Mem) : Option Rv := if (M 218 15) = 0 then (if (M 218 14) = 0 then (f_X7_endPut_57 s0 M) else if (M 218 14) = 1 then ((mrd M 230 4000 0).bind fun v5 => f_X7_endPut_57 v5 M) else (f_X7_makeList x1 M).bind fun q4 => f_X7_endPut_57 q4.1 q4.2) else f_X7_endPut_57 (1 - s0) M
def f_X7_endPut (p1 : Int32) (M : Mem) : Option Rv := if p1 = 5 then (f_X7_endPut_10 p1 1 M) else f_X7_endPut_10 p1 0 M
def f_X7_both (p1 : Int32) (p2 : Int32) (p3 : Int32) (M : Mem) : Option Rv := (f_X7_beginPut M).bind fun q1 => (f_X7_putIn p1 p2 q1.2).bind fun q2 => (f_X7_putIn p1 p3 q2.2).bind fun q3 => (f_X7_endPut p1 q3.2).bind fun q4 => some (q4.1, q4.2)
def f_X7_mark_13 (k2 : Int32 → Int32 → Mem → Option Rv) (x1 : Int32) (x2 : Int32) (M : Mem) : Option Rv := (mst M 228 8000 x2 (nz 0)).bind fun M1 => k2 x1 (x2 + 1) M1
def f_X7_mark_79 (k35 : Int32 → Mem → Option Rv) (x2 : Int32) (M : Mem) : Option Rv := k35 (x2 - 1) M
def f_X7_mark_43 (k35 : Int32 → Mem → Option Rv) : Nat → Int32 → Int32 → Mem → Option Rv
  | 0, _, _, _ => none
  | n + 1, x2, x3, M => (f_X7_childMany x2 M).bind fun q1 => if x3 < q1.1 then ((mrd q1.2 228 8000 x2).bind fun v3 => if v3 = 0 then (f_X7_mark_79 k35 x2 q1.2) else (f_X7_child x2 x3 q1.2).bind fun q5 => (mst q5.2 228 8000 q5.1 (nz 1)).bind fun M6 => f_X7_mark_43 k35 n x2 (x3 + 1) M6) else f_X7_mark_79 k35 x2 q1.2
def f_X7_mark_35 : Nat → Int32 → Mem → Option Rv
  | 0, _, _ => none
  | n + 1, x2, M => if x2 < 16 then (some (0, M)) else f_X7_mark_43 (f_X7_mark_35 n) fuelN x2 0 M
def f_X7_mark_2 : Nat → Int32 → Int32 → Mem → Option Rv
  | 0, _, _, _ => none
  | n + 1, x1, x2, M => if x1 < x2 then (if x2 < 16 then (f_X7_mark_13 (f_X7_mark_2 n) x1 x2 M) else (mst M 228 8000 x1 (nz 1)).bind fun M3 => f_X7_mark_35 fuelN x1 M3) else f_X7_mark_13 (f_X7_mark_2 n) x1 x2 M
def f_X7_mark (p1 : Int32) (M : Mem) : Option Rv := f_X7_mark_2 fuelN p1 0 M
def f_X7_putAll_6 : Nat → Int32 → Int32 → Int32 → Mem → Option Rv
  | 0, _, _, _, _ => none
  | n + 1, x1, x2, x3, M => (mrd M 224 8000 x2).bind fun v1 => if x3 < v1 then ((mrd M 223 8000 x2).bind fun v4 => (mrd M 229 90000 (v4 + x3)).bind fun v5 => (mrd M 227 8000 v5).bind fun v6 => (f_X7_putIn x1 v6 M).bind fun q7 => f_X7_putAll_6 n x1 x2 (x3 + 1) q7.2) else (f_X7_endPut x1 M).bind fun q3 => some (q3.1, q3.2)
def f_X7_putAll (p1 : Int32) (p2 : Int32) (M : Mem) : Option Rv := (f_X7_beginPut M).bind fun q1 => f_X7_putAll_6 fuelN p1 p2 0 q1.2
def f_X7_step (p1 : Int32) (M : Mem) : Option Rv := (mrd M 222 8000 p1).bind fun v1 => if v1 = 1 then ((mrd M 223 8000 p1).bind fun v3 => (f_X7_both 5 2 v3 M).bind fun q4 => some (q4.1, q4.2)) else if v1 = 2 then ((mrd M 223 8000 p1).bind fun v6 => (f_X7_both 6 3 v6 M).bind fun q7 => some (q7.1, q7.2)) else if v1 = 3 then ((mrd M 224 8000 p1).bind fun v9 => (mrd M 227 8000 v9).bind fun v10 => (mrd M 223 8000 p1).bind fun v11 => (mrd M 227 8000 v11).bind fun v12 => (f_X7_both 5 v12 p1 M).bind fun q13 => (f_X7_both 6 v10 q13.1 q13.2).bind fun q14 => some (q14.1, q14.2)) else if v1 = 4 then ((mrd M 224 8000 p1).bind fun v16 => (mrd M 227 8000 v16).bind fun v17 => (mrd M 223 8000 p1).bind fun v18 => (mrd M 227 8000 v18).bind fun v19 => (f_X7_both 6 v19 p1 M).bind fun q20 => (f_X7_both 5 v17 q20.1 q20.2).bind fun q21 => some (q21.1, q21.2)) else (mrd M 222 8000 p1).bind fun v22 => (f_X7_putAll v22 p1 M).bind fun q23 => some (q23.1, q23.2)
def f_X7_rewritten_123 (k7 : Int32 → Int32 → Int32 → Mem → Option Rv) (x1 : Int32) (x2 : Int32) (x3 : Int32) (M : Mem) : Option Rv := k7 x1 x2 (x3 + 1) M
def f_X7_rewritten_47 (k7 : Int32 → Int32 → Int32 → Mem → Option Rv) (x1 : Int32) (x2 : Int32) (x3 : Int32) (s0 : Int32) (s1 : Int32) (M : Mem) : Option Rv := (mst M 227 8000 s1 s0).bind fun M1 => f_X7_rewritten_123 k7 x1 x2 x3 M1
def f_X7_rewritten_99 (k7 : Int32 → Int32 → Int32 → Mem → Option Rv) (x1 : Int32) (x2 : Int32) (x3 : Int32) (s0 : Int32) (s1 : Int32) (M : Mem) : Option Rv := (mst M 227 8000 s1 s0).bind fun M1 => f_X7_rewritten_123 k7 x1 x2 x3 M1
def f_X7_rewritten_74 (k7 : Int32 → Int32 → Int32 → Mem → Option Rv) (x1 : Int32) (x2 : Int32) (x3 : Int32) (s0 : Int32) (s1 : Int32) (M : Mem) : Option Rv := if x3 < 10 then (f_X7_rewritten_99 k7 x1 x2 x3 ((s1 >>> ((s0 : Int32) &&& 31)) &&& 1) x3 M) else f_X7_rewritten_99 k7 x1 x2 x3 (1 - ((s1 >>> ((s0 : Int32) &&& 31)) &&& 1)) x3 M
def f_X7_rewritten_18 (k7 : Int32 → Int32 → Int32 → Mem → Option Rv) (x1 : Int32) (x2 : Int32) (x3 : Int32) (M : Mem) : Option Rv := if x3 < 4 then (if x3 < 2 then (f_X7_rewritten_47 k7 x1 x2 x3 x3 x3 M) else if x3 = 2 then (f_X7_rewritten_47 k7 x1 x2 x3 1 x3 M) else f_X7_rewritten_47 k7 x1 x2 x3 0 x3 M) else if x3 < 16 then (if x3 < 10 then (f_X7_rewritten_74 k7 x1 x2 x3 (x3 - 4) x2 M) else f_X7_rewritten_74 k7 x1 x2 x3 (x3 - 10) x2 M) else (mrd M 228 8000 x3).bind fun v3 => if v3 = 0 then (f_X7_rewritten_123 k7 x1 x2 x3 M) else (f_X7_step x3 M).bind fun q5 => (mst q5.2 227 8000 x3 q5.1).bind fun M6 => f_X7_rewritten_123 k7 x1 x2 x3 M6
def f_X7_rewritten_7 : Nat → Int32 → Int32 → Int32 → Mem → Option Rv
  | 0, _, _, _, _ => none
  | n + 1, x1, x2, x3, M => if x1 < x3 then (if x3 < 16 then (f_X7_rewritten_18 (f_X7_rewritten_7 n) x1 x2 x3 M) else (mrd M 227 8000 x1).bind fun v3 => some (v3, M)) else f_X7_rewritten_18 (f_X7_rewritten_7 n) x1 x2 x3 M
def f_X7_rewritten (p1 : Int32) (p2 : Int32) (M : Mem) : Option Rv := (f_X7_mark p1 M).bind fun q1 => f_X7_rewritten_7 fuelN p1 p2 0 q1.2
def f_X7_turned (p1 : Int32) (M : Mem) : Option Rv := (mrd M 222 8000 p1).bind fun v1 => if v1 = 1 then ((mrd M 223 8000 p1).bind fun v3 => (mrd M 227 8000 v3).bind fun v4 => (f_X7_make 2 v4 0 M).bind fun q5 => some (q5.1, q5.2)) else if v1 = 2 then ((mrd M 223 8000 p1).bind fun v7 => (mrd M 227 8000 v7).bind fun v8 => (f_X7_make 1 v8 0 M).bind fun q9 => some (q9.1, q9.2)) else if v1 = 3 then ((mrd M 223 8000 p1).bind fun v11 => (mrd M 227 8000 v11).bind fun v12 => (mrd M 224 8000 p1).bind fun v13 => (mrd M 227 8000 v13).bind fun v14 => (f_X7_make 4 v12 v14 M).bind fun q15 => some (q15.1, q15.2)) else if v1 = 4 then ((mrd M 223 8000 p1).bind fun v17 => (mrd M 227 8000 v17).bind fun v18 => (mrd M 224 8000 p1).bind fun v19 => (mrd M 227 8000 v19).bind fun v20 => (f_X7_make 3 v18 v20 M).bind fun q21 => some (q21.1, q21.2)) else if v1 = 5 then ((f_X7_putAll 6 p1 M).bind fun q23 => some (q23.1, q23.2)) else (f_X7_putAll 5 p1 M).bind fun q24 => some (q24.1, q24.2)
def f_X7_opposite_68 (k7 : Int32 → Int32 → Mem → Option Rv) (x1 : Int32) (x2 : Int32) (M : Mem) : Option Rv := k7 x1 (x2 + 1) M
def f_X7_opposite_44 (k7 : Int32 → Int32 → Mem → Option Rv) (x1 : Int32) (x2 : Int32) (s0 : Int32) (s1 : Int32) (M : Mem) : Option Rv := (mst M 227 8000 s1 s0).bind fun M1 => f_X7_opposite_68 k7 x1 x2 M1
def f_X7_opposite_18 (k7 : Int32 → Int32 → Mem → Option Rv) (x1 : Int32) (x2 : Int32) (M : Mem) : Option Rv := if x2 < 16 then (if x2 < 2 then (f_X7_opposite_44 k7 x1 x2 (1 - x2) x2 M) else (f_X7_counter x2 M).bind fun q7 => f_X7_opposite_44 k7 x1 x2 q7.1 x2 q7.2) else (mrd M 228 8000 x2).bind fun v2 => if v2 = 0 then (f_X7_opposite_68 k7 x1 x2 M) else (f_X7_turned x2 M).bind fun q4 => (mst q4.2 227 8000 x2 q4.1).bind fun M5 => f_X7_opposite_68 k7 x1 x2 M5
def f_X7_opposite_7 : Nat → Int32 → Int32 → Mem → Option Rv
  | 0, _, _, _ => none
  | n + 1, x1, x2, M => if x1 < x2 then (if x2 < 16 then (f_X7_opposite_18 (f_X7_opposite_7 n) x1 x2 M) else (mrd M 227 8000 x1).bind fun v3 => some (v3, M)) else f_X7_opposite_18 (f_X7_opposite_7 n) x1 x2 M
def f_X7_opposite (p1 : Int32) (M : Mem) : Option Rv := (f_X7_mark p1 M).bind fun q1 => f_X7_opposite_7 fuelN p1 0 q1.2
def f_X7_isTrue_175 (k2 : Int32 → Int32 → Mem → Option Rv) (x1 : Int32) (x2 : Int32) (M : Mem) : Option Rv := k2 x1 (x2 + 1) M
def f_X7_isTrue_45 (k2 : Int32 → Int32 → Mem → Option Rv) (x1 : Int32) (x2 : Int32) (s0 : Int32) (s1 : Int32) (M : Mem) : Option Rv := (mst M 227 8000 s1 s0).bind fun M1 => f_X7_isTrue_175 k2 x1 x2 M1
def f_X7_isTrue_40 (k2 : Int32 → Int32 → Mem → Option Rv) (x1 : Int32) (x2 : Int32) (s0 : Int32) (M : Mem) : Option Rv := f_X7_isTrue_45 k2 x1 x2 1 s0 M
def f_X7_isTrue_89 (k2 : Int32 → Int32 → Mem → Option Rv) (x1 : Int32) (x2 : Int32) (s0 : Int32) (s1 : Int32) (M : Mem) : Option Rv := (mst M 227 8000 s1 s0).bind fun M1 => f_X7_isTrue_175 k2 x1 x2 M1
def f_X7_isTrue_84 (k2 : Int32 → Int32 → Mem → Option Rv) (x1 : Int32) (x2 : Int32) (s0 : Int32) (M : Mem) : Option Rv := f_X7_isTrue_89 k2 x1 x2 1 s0 M
def f_X7_isTrue_174 (k2 : Int32 → Int32 → Mem → Option Rv) (x1 : Int32) (x2 : Int32) (s0 : Int32) (s1 : Int32) (M : Mem) : Option Rv := (mst M 227 8000 s1 s0).bind fun M1 => f_X7_isTrue_175 k2 x1 x2 M1
def f_X7_isTrue_169 (k2 : Int32 → Int32 → Mem → Option Rv) (x1 : Int32) (x2 : Int32) (s0 : Int32) (M : Mem) : Option Rv := f_X7_isTrue_174 k2 x1 x2 1 s0 M
def f_X7_isTrue_173 (k2 : Int32 → Int32 → Mem → Option Rv) (x1 : Int32) (x2 : Int32) (s0 : Int32) (M : Mem) : Option Rv := f_X7_isTrue_174 k2 x1 x2 0 s0 M
def f_X7_isTrue_98 (k2 : Int32 → Int32 → Mem → Option Rv) : Nat → Int32 → Int32 → Int32 → Int32 → Mem → Option Rv
  | 0, _, _, _, _, _ => none
  | n + 1, x1, x2, x3, x4, M => (mrd M 224 8000 x2).bind fun v1 => if x4 < v1 then ((mrd M 223 8000 x2).bind fun v8 => (mrd M 229 90000 (v8 + x4)).bind fun v9 => (mrd M 227 8000 v9).bind fun v10 => f_X7_isTrue_98 k2 n x1 x2 (x3 + v10) (x4 + 1) M) else (mrd M 222 8000 x2).bind fun v3 => if v3 = 5 then ((mrd M 224 8000 x2).bind fun v6 => if x3 = v6 then (f_X7_isTrue_169 k2 x1 x2 x2 M) else f_X7_isTrue_173 k2 x1 x2 x2 M) else if 0 < x3 then (f_X7_isTrue_169 k2 x1 x2 x2 M) else f_X7_isTrue_173 k2 x1 x2 x2 M
def f_X7_isTrue_13 (k2 : Int32 → Int32 → Mem → Option Rv) (x1 : Int32) (x2 : Int32) (M : Mem) : Option Rv := if x2 < 16 then (if x2 = 1 then (f_X7_isTrue_40 k2 x1 x2 x2 M) else if x2 = 3 then (f_X7_isTrue_40 k2 x1 x2 x2 M) else if x2 < 10 then (f_X7_isTrue_45 k2 x1 x2 0 x2 M) else f_X7_isTrue_40 k2 x1 x2 x2 M) else (mrd M 222 8000 x2).bind fun v2 => if v2 < 5 then ((mrd M 222 8000 x2).bind fun v4 => if v4 = 2 then (f_X7_isTrue_84 k2 x1 x2 x2 M) else (mrd M 222 8000 x2).bind fun v6 => if v6 = 4 then (f_X7_isTrue_84 k2 x1 x2 x2 M) else f_X7_isTrue_89 k2 x1 x2 0 x2 M) else f_X7_isTrue_98 k2 fuelN x1 x2 0 0 M
def f_X7_isTrue_196 (s0 : Int32) (M : Mem) : Option Rv := mrz s0 M
def f_X7_isTrue_2 : Nat → Int32 → Int32 → Mem → Option Rv
  | 0, _, _, _ => none
  | n + 1, x1, x2, M => if x1 < x2 then (if x2 < 16 then (f_X7_isTrue_13 (f_X7_isTrue_2 n) x1 x2 M) else (mrd M 227 8000 x1).bind fun v3 => if v3 = 1 then (f_X7_isTrue_196 1 M) else f_X7_isTrue_196 0 M) else f_X7_isTrue_13 (f_X7_isTrue_2 n) x1 x2 M
def f_X7_isTrue (p1 : Int32) (M : Mem) : Option Rv := f_X7_isTrue_2 fuelN p1 0 M
def f_X7_store_249 (k41 : Int32 → Int32 → Int32 → Int32 → Int32 → Int32 → Mem → Option Rv) (x1 : Int32) (x2 : Int32) (x3 : Int32) (x4 : Int32) (x5 : Int32) (x6 : Int32) (M : Mem) : Option Rv := k41 x1 x2 x3 x4 x5 (x6 + 1) M
def f_X7_store_246 (k41 : Int32 → Int32 → Int32 → Int32 → Int32 → Int32 → Mem → Option Rv) (x1 : Int32) (x2 : Int32) (x3 : Int32) (x4 : Int32) (x5 : Int32) (x6 : Int32) (M : Mem) : Option Rv := f_X7_store_249 k41 x1 x2 x3 (x4 + 1) x5 x6 M
def f_X7_store_178 (k41 : Int32 → Int32 → Int32 → Int32 → Int32 → Int32 → Mem → Option Rv) : Nat → Int32 → Int32 → Int32 → Int32 → Int32 → Int32 → Int32 → Mem → Option Rv
  | 0, _, _, _, _, _, _, _, _ => none
  | n + 1, x1, x2, x3, x4, x5, x6, x8, M => (mrd M 224 8000 x6).bind fun v1 => if x8 < v1 then ((mrd M 222 8000 x6).bind fun v3 => if v3 < 5 then (f_X7_store_246 k41 x1 x2 x3 x4 x5 x6 M) else (f_X7_cell x1 x2 (362 + x5) M).bind fun q5 => (mrd q5.2 223 8000 x6).bind fun v6 => (mrd q5.2 229 90000 (v6 + x8)).bind fun v7 => (mrd q5.2 227 8000 v7).bind fun v8 => (mst q5.2 219 31088 q5.1 v8).bind fun M9 => f_X7_store_178 k41 n x1 x2 x3 x4 (x5 + 1) x6 (x8 + 1) M9) else f_X7_store_246 k41 x1 x2 x3 x4 x5 x6 M
def f_X7_store_174 (k41 : Int32 → Int32 → Int32 → Int32 → Int32 → Int32 → Mem → Option Rv) (x1 : Int32) (x2 : Int32) (x3 : Int32) (x4 : Int32) (x5 : Int32) (x6 : Int32) (s0 : Int32) (s1 : Int32) (M : Mem) : Option Rv := (mst M 219 31088 s1 s0).bind fun M1 => f_X7_store_178 k41 fuelN x1 x2 x3 x4 x5 x6 0 M1
def f_X7_store_132 (k41 : Int32 → Int32 → Int32 → Int32 → Int32 → Int32 → Mem → Option Rv) (x1 : Int32) (x2 : Int32) (x3 : Int32) (x4 : Int32) (x5 : Int32) (x6 : Int32) (x7 : Int32) (s0 : Int32) (s1 : Int32) (M : Mem) : Option Rv := (mst M 219 31088 s1 s0).bind fun M1 => (mrd M1 222 8000 x6).bind fun v2 => if v2 < 5 then ((mrd M1 224 8000 x6).bind fun v4 => (mrd M1 227 8000 v4).bind fun v5 => f_X7_store_174 k41 x1 x2 x3 x4 x5 x6 v5 (x7 + 2) M1) else (mrd M1 224 8000 x6).bind fun v6 => f_X7_store_174 k41 x1 x2 x3 x4 x5 x6 v6 (x7 + 2) M1
def f_X7_store_41 : Nat → Int32 → Int32 → Int32 → Int32 → Int32 → Int32 → Mem → Option Rv
  | 0, _, _, _, _, _, _, _ => none
  | n + 1, x1, x2, x3, x4, x5, x6, M => if x3 < x6 then ((f_X7_cell x1 x2 0 M).bind fun q2 => (mrd q2.2 227 8000 x3).bind fun v3 => (mst q2.2 219 31088 q2.1 v3).bind fun M4 => (f_X7_cell x1 x2 1 M4).bind fun q5 => (mst q5.2 219 31088 q5.1 (x4 - 16)).bind fun M6 => some (0, M6)) else (mrd M 228 8000 x6).bind fun v7 => if v7 = 0 then (f_X7_store_249 (f_X7_store_41 n) x1 x2 x3 x4 x5 x6 M) else (f_X7_cell x1 x2 (2 + (3 * (x4 - 16))) M).bind fun q9 => (mst q9.2 227 8000 x6 x4).bind fun M10 => (mrd M10 222 8000 x6).bind fun v11 => (mst M10 219 31088 q9.1 v11).bind fun M12 => (mrd M12 222 8000 x6).bind fun v13 => if v13 < 5 then ((mrd M12 223 8000 x6).bind fun v15 => (mrd M12 227 8000 v15).bind fun v16 => f_X7_store_132 (f_X7_store_41 n) x1 x2 x3 x4 x5 x6 q9.1 v16 (q9.1 + 1) M12) else f_X7_store_132 (f_X7_store_41 n) x1 x2 x3 x4 x5 x6 q9.1 x5 (q9.1 + 1) M12
def f_X7_store_15 : Nat → Int32 → Int32 → Int32 → Int32 → Int32 → Int32 → Mem → Option Rv
  | 0, _, _, _, _, _, _, _ => none
  | n + 1, x1, x2, x3, x4, x5, x6, M => if x6 < 16 then ((mst M 227 8000 x6 x6).bind fun M2 => f_X7_store_15 n x1 x2 x3 x4 x5 (x6 + 1) M2) else f_X7_store_41 fuelN x1 x2 x3 x4 x5 16 M
def f_X7_store (p1 : Int32) (p2 : Int32) (p3 : Int32) (M : Mem) : Option Rv := (f_X7_mark p3 M).bind fun q1 => f_X7_store_15 fuelN p1 p2 p3 16 0 0 q1.2
def f_X7_load_212 (k40 : Int32 → Int32 → Int32 → Int32 → Mem → Option Rv) (x1 : Int32) (x2 : Int32) (x3 : Int32) (x4 : Int32) (M : Mem) : Option Rv := k40 x1 x2 x3 (x4 + 1) M
def f_X7_load_86 (k40 : Int32 → Int32 → Int32 → Int32 → Mem → Option Rv) : Nat → Int32 → Int32 → Int32 → Int32 → Int32 → Int32 → Mem → Option Rv
  | 0, _, _, _, _, _, _, _ => none
  | n + 1, x1, x2, x3, x4, x5, x6, M => if x6 < (M 218 14) then ((mrd M 219 31088 (x5 + 1)).bind fun v5 => (f_X7_cell x1 x2 ((362 + v5) + x6) M).bind fun q6 => (mrd q6.2 219 31088 q6.1).bind fun v7 => (mrd q6.2 227 8000 v7).bind fun v8 => (mst q6.2 230 4000 x6 v8).bind fun M9 => f_X7_load_86 k40 n x1 x2 x3 x4 x5 (x6 + 1) M9) else (mrd M 219 31088 x5).bind fun v2 => (f_X7_makeList v2 M).bind fun q3 => (mst q3.2 227 8000 (16 + x4) q3.1).bind fun M4 => f_X7_load_212 k40 x1 x2 x3 x4 M4
def f_X7_load_40 : Nat → Int32 → Int32 → Int32 → Int32 → Mem → Option Rv
  | 0, _, _, _, _, _ => none
  | n + 1, x1, x2, x3, x4, M => if x4 < x3 then ((f_X7_cell x1 x2 (2 + (3 * x4)) M).bind fun q5 => (mrd q5.2 219 31088 q5.1).bind fun v6 => if v6 < 5 then ((mrd q5.2 219 31088 q5.1).bind fun v8 => (mrd q5.2 219 31088 (q5.1 + 1)).bind fun v9 => (mrd q5.2 227 8000 v9).bind fun v10 => (mrd q5.2 219 31088 (q5.1 + 2)).bind fun v11 => (mrd q5.2 227 8000 v11).bind fun v12 => (f_X7_make v8 v10 v12 q5.2).bind fun q13 => (mst q13.2 227 8000 (16 + x4) q13.1).bind fun M14 => f_X7_load_212 (f_X7_load_40 n) x1 x2 x3 x4 M14) else (mrd q5.2 219 31088 (q5.1 + 2)).bind fun v15 => (mpi q5.2 218 14 v15).bind fun M16 => f_X7_load_86 (f_X7_load_40 n) fuelN x1 x2 x3 x4 q5.1 0 M16) else (f_X7_cell x1 x2 0 M).bind fun q2 => (mrd q2.2 219 31088 q2.1).bind fun v3 => (mrd q2.2 227 8000 v3).bind fun v4 => some (v4, q2.2)
def f_X7_load_15 : Nat → Int32 → Int32 → Int32 → Int32 → Mem → Option Rv
  | 0, _, _, _, _, _ => none
  | n + 1, x1, x2, x3, x4, M => if x4 < 16 then ((mst M 227 8000 x4 x4).bind fun M2 => f_X7_load_15 n x1 x2 x3 (x4 + 1) M2) else f_X7_load_40 fuelN x1 x2 x3 0 M
def f_X7_load (p1 : Int32) (p2 : Int32) (M : Mem) : Option Rv := (f_X7_cell p1 p2 1 M).bind fun q1 => (mrd q1.2 219 31088 q1.1).bind fun v2 => f_X7_load_15 fuelN p1 p2 v2 0 q1.2
def f_X7_loadAlone (p1 : Int32) (p2 : Int32) (M : Mem) : Option Rv := (f_X7_empty M).bind fun q1 => (f_X7_load p1 p2 q1.2).bind fun q2 => some (q2.1, q2.2)
def f_X7_formOf (p1 : Int32) (p2 : Int32) (M : Mem) : Option Rv := (f_X7_cell p1 p2 0 M).bind fun q1 => (mrd q1.2 219 31088 q1.1).bind fun v2 => some (v2, q1.2)
def f_X7_partsThat_41 (k5 : Int32 → Int32 → Int32 → Int32 → Mem → Option Rv) (x1 : Int32) (x2 : Int32) (x4 : Int32) (s0 : Int32) (s1 : Int32) (M : Mem) : Option Rv := k5 x1 x2 (s1 ||| s0) (x4 + 1) M
def f_X7_partsThat_5 : Nat → Int32 → Int32 → Int32 → Int32 → Mem → Option Rv
  | 0, _, _, _, _, _ => none
  | n + 1, x1, x2, x3, x4, M => (f_X7_w x1 M).bind fun q1 => (mrd q1.2 219 31088 (q1.1 + 5)).bind fun v2 => if x4 < v2 then ((f_X7_formOf x1 x4 q1.2).bind fun q4 => if q4.1 = x2 then (f_X7_partsThat_41 (f_X7_partsThat_5 n) x1 x2 x4 (1 <<< ((x4 : Int32) &&& 31)) x3 q4.2) else f_X7_partsThat_41 (f_X7_partsThat_5 n) x1 x2 x4 0 x3 q4.2) else some (x3, q1.2)
def f_X7_partsThat (p1 : Int32) (p2 : Int32) (M : Mem) : Option Rv := f_X7_partsThat_5 fuelN p1 p2 0 0 M
def f_X7_verdictBy_44 (s0 : Int32) (M : Mem) : Option Rv := some (s0, M)
def f_X7_verdictBy (p1 : Int32) (M : Mem) : Option Rv := (f_X7_w p1 M).bind fun q1 => (mrd q1.2 219 31088 (q1.1 + 5)).bind fun v2 => (f_X7_partsThat p1 0 q1.2).bind fun q3 => if q3.1 = 0 then ((f_X7_partsThat p1 1 q3.2).bind fun q5 => if q5.1 = ((1 <<< ((v2 : Int32) &&& 31)) - 1) then (f_X7_verdictBy_44 1 q5.2) else f_X7_verdictBy_44 2 q5.2) else f_X7_verdictBy_44 0 q3.2
def f_X7_wouldBe_84 (k23 : Int32 → Int32 → Int32 → Int32 → Int32 → Mem → Option Rv) (x1 : Int32) (x2 : Int32) (x3 : Int32) (x5 : Int32) (s0 : Int32) (M : Mem) : Option Rv := k23 x1 x2 x3 s0 (x5 + 1) M
def f_X7_wouldBe_83 (k23 : Int32 → Int32 → Int32 → Int32 → Int32 → Mem → Option Rv) (x1 : Int32) (x2 : Int32) (x3 : Int32) (x5 : Int32) (M : Mem) : Option Rv := f_X7_wouldBe_84 k23 x1 x2 x3 x5 0 M
def f_X7_wouldBe_68 (k23 : Int32 → Int32 → Int32 → Int32 → Int32 → Mem → Option Rv) (x1 : Int32) (x2 : Int32) (x4 : Int32) (x5 : Int32) (x6 : Int32) (s0 : Int32) (M : Mem) : Option Rv := if x4 = 0 then (f_X7_wouldBe_83 k23 x1 x2 s0 x5 M) else if x6 = 0 then (f_X7_wouldBe_83 k23 x1 x2 s0 x5 M) else f_X7_wouldBe_84 k23 x1 x2 s0 x5 1 M
def f_X7_wouldBe_67 (k23 : Int32 → Int32 → Int32 → Int32 → Int32 → Mem → Option Rv) (x1 : Int32) (x2 : Int32) (x4 : Int32) (x5 : Int32) (x6 : Int32) (M : Mem) : Option Rv := f_X7_wouldBe_68 k23 x1 x2 x4 x5 x6 0 M
def f_X7_wouldBe_110 (s0 : Int32) (M : Mem) : Option Rv := some (s0, M)
def f_X7_wouldBe_23 : Nat → Int32 → Int32 → Int32 → Int32 → Int32 → Mem → Option Rv
  | 0, _, _, _, _, _, _ => none
  | n + 1, x1, x2, x3, x4, x5, M => (f_X7_w x1 M).bind fun q1 => (mrd q1.2 219 31088 (q1.1 + 5)).bind fun v2 => if x5 < v2 then ((f_X7_loadAlone x1 x5 q1.2).bind fun q6 => (f_X7_rewritten q6.1 x2 q6.2).bind fun q7 => if x3 = 0 then (f_X7_wouldBe_67 (f_X7_wouldBe_23 n) x1 x2 x4 x5 q7.1 q7.2) else if q7.1 = 1 then (f_X7_wouldBe_68 (f_X7_wouldBe_23 n) x1 x2 x4 x5 q7.1 1 q7.2) else f_X7_wouldBe_67 (f_X7_wouldBe_23 n) x1 x2 x4 x5 q7.1 q7.2) else if x4 = 0 then (f_X7_wouldBe_110 0 q1.2) else if x3 = 0 then (f_X7_wouldBe_110 2 q1.2) else f_X7_wouldBe_110 1 q1.2
def f_X7_wouldBe (p1 : Int32) (p2 : Int32) (M : Mem) : Option Rv := (f_X7_verdict p1 M).bind fun q1 => if q1.1 < 2 then ((f_X7_verdict p1 q1.2).bind fun q3 => some (q3.1, q3.2)) else f_X7_wouldBe_23 fuelN p1 p2 1 1 0 q1.2
def f_X7_blame_35 (k5 : Int32 → Int32 → Int32 → Int32 → Mem → Option Rv) (x1 : Int32) (x2 : Int32) (x4 : Int32) (s0 : Int32) (s1 : Int32) (M : Mem) : Option Rv := k5 x1 x2 (s1 ||| s0) (x4 + 1) M
def f_X7_blame_5 : Nat → Int32 → Int32 → Int32 → Int32 → Mem → Option Rv
  | 0, _, _, _, _, _ => none
  | n + 1, x1, x2, x3, x4, M => if x4 < 6 then ((f_X7_wouldBe x1 (x2 ^^^ (1 <<< ((x4 : Int32) &&& 31))) M).bind fun q2 => if q2.1 = 0 then (f_X7_blame_35 (f_X7_blame_5 n) x1 x2 x4 0 x3 q2.2) else f_X7_blame_35 (f_X7_blame_5 n) x1 x2 x4 (1 <<< ((x4 : Int32) &&& 31)) x3 q2.2) else some (x3, M)
def f_X7_blame (p1 : Int32) (p2 : Int32) (M : Mem) : Option Rv := f_X7_blame_5 fuelN p1 p2 0 0 M
def f_X7_isTooGreat_72 (k4 : Int32 → Int32 → Int32 → Mem → Option Rv) (k17 : Int32 → Int32 → Int32 → Int32 → Mem → Option Rv) (x1 : Int32) (x3 : Int32) (x4 : Int32) (s0 : Int32) (M : Mem) : Option Rv := k17 x1 s0 x3 (x4 + 1) M
def f_X7_isTooGreat_79 (k4 : Int32 → Int32 → Int32 → Mem → Option Rv) (x1 : Int32) (x2 : Int32) (x3 : Int32) (M : Mem) : Option Rv := k4 x1 x2 (x3 + 1) M
def f_X7_isTooGreat_17 (k4 : Int32 → Int32 → Int32 → Mem → Option Rv) : Nat → Int32 → Int32 → Int32 → Int32 → Mem → Option Rv
  | 0, _, _, _, _, _ => none
  | n + 1, x1, x2, x3, x4, M => (f_X7_w x3 M).bind fun q1 => (mrd q1.2 219 31088 (q1.1 + 5)).bind fun v2 => if x4 < v2 then ((f_X7_isThere x3 q1.2).bind fun q4 => if q4.1 = 0 then (f_X7_isTooGreat_79 k4 x1 x2 x3 q4.2) else if x2 = 0 then ((f_X7_loadAlone x3 x4 q4.2).bind fun q7 => (f_X7_rewritten q7.1 x1 q7.2).bind fun q8 => (mrd q8.2 225 8000 q8.1).bind fun v9 => if 120 < v9 then (f_X7_isTooGreat_72 k4 (f_X7_isTooGreat_17 k4 n) x1 x3 x4 1 q8.2) else f_X7_isTooGreat_72 k4 (f_X7_isTooGreat_17 k4 n) x1 x3 x4 0 q8.2) else f_X7_isTooGreat_79 k4 x1 x2 x3 q4.2) else f_X7_isTooGreat_79 k4 x1 x2 x3 q1.2
def f_X7_isTooGreat_4 : Nat → Int32 → Int32 → Int32 → Mem → Option Rv
  | 0, _, _, _, _ => none
  | n + 1, x1, x2, x3, M => (mrd M 219 31088 2).bind fun v1 => if x3 < v1 then (f_X7_isTooGreat_17 (f_X7_isTooGreat_4 n) fuelN x1 x2 x3 0 M) else mrz x2 M
def f_X7_isTooGreat (p1 : Int32) (M : Mem) : Option Rv := f_X7_isTooGreat_4 fuelN p1 0 0 M
def f_X7_happens_88 (M : Mem) : Option Rv := some (0, M)
def f_X7_happens_147 (s0 : Int32) (s1 : Int32) (M : Mem) : Option Rv := (mst M 219 31088 s1 s0).bind fun M1 => some (1, M1)
def f_X7_happens_34 : Nat → Int32 → Int32 → Int32 → Int32 → Int32 → Mem → Option Rv
  | 0, _, _, _, _, _, _ => none
  | n + 1, x1, x2, x3, x4, x5, M => (f_X7_w x1 M).bind fun q1 => (mrd q1.2 219 31088 (q1.1 + 5)).bind fun v2 => if x5 < v2 then ((f_X7_loadAlone x1 x5 q1.2).bind fun q16 => (f_X7_rewritten q16.1 x2 q16.2).bind fun q17 => (f_X7_store x1 x5 q17.1 q17.2).bind fun q18 => f_X7_happens_34 n x1 x2 x3 x4 (x5 + 1) q18.2) else if x3 = 0 then (f_X7_happens_88 q1.2) else (f_X7_verdictBy x1 q1.2).bind fun q5 => if q5.1 = 2 then (f_X7_happens_88 q5.2) else (f_X7_w x1 q5.2).bind fun q7 => (f_X7_verdictBy x1 q7.2).bind fun q8 => (mst q8.2 219 31088 (q7.1 + 1) q8.1).bind fun M9 => (f_X7_w x1 M9).bind fun q10 => (mrd q10.2 219 31088 0).bind fun v11 => (mst q10.2 219 31088 (q10.1 + 2) v11).bind fun M12 => (f_X7_w x1 M12).bind fun q13 => (f_X7_verdict x1 q13.2).bind fun q14 => if q14.1 = 0 then (f_X7_happens_147 x4 (q13.1 + 3) q14.2) else f_X7_happens_147 0 (q13.1 + 3) q14.2
def f_X7_happens_29 (x1 : Int32) (x2 : Int32) (x3 : Int32) (s0 : Int32) (M : Mem) : Option Rv := f_X7_happens_34 fuelN x1 x2 x3 s0 0 M
def f_X7_happens_14 (x1 : Int32) (x2 : Int32) (s0 : Int32) (M : Mem) : Option Rv := if s0 = 0 then (f_X7_happens_29 x1 x2 s0 0 M) else (f_X7_blame x1 x2 M).bind fun q2 => f_X7_happens_29 x1 x2 s0 q2.1 q2.2
def f_X7_happens (p1 : Int32) (p2 : Int32) (M : Mem) : Option Rv := (f_X7_verdict p1 M).bind fun q1 => if q1.1 = 2 then (f_X7_happens_14 p1 p2 1 q1.2) else f_X7_happens_14 p1 p2 0 q1.2
def f_X7_event_45 (M : Mem) : Option Rv := some ((-3), M)
def f_X7_event_85 (k56 : Int32 → Int32 → Int32 → Mem → Option Rv) (x1 : Int32) (x3 : Int32) (s0 : Int32) (s1 : Int32) (M : Mem) : Option Rv := k56 x1 (s1 + s0) (x3 + 1) M
def f_X7_event_56 : Nat → Int32 → Int32 → Int32 → Mem → Option Rv
  | 0, _, _, _, _ => none
  | n + 1, x1, x2, x3, M => (mrd M 219 31088 2).bind fun v1 => if x3 < v1 then ((f_X7_isThere x3 M).bind fun q7 => if q7.1 = 0 then (f_X7_event_85 (f_X7_event_56 n) x1 x3 0 x2 q7.2) else (f_X7_happens x3 x1 q7.2).bind fun q9 => f_X7_event_85 (f_X7_event_56 n) x1 x3 q9.1 x2 q9.2) else (mrd M 219 31088 0).bind fun v3 => (mst M 219 31088 (4 + v3) x1).bind fun M4 => (mrd M4 219 31088 0).bind fun v5 => (mst M4 219 31088 0 (v5 + 1)).bind fun M6 => some (x2, M6)
def f_X7_event (p1 : Int32) (M : Mem) : Option Rv := (f_X7_in p1 0 63 M).bind fun q1 => if q1.1 = 0 then (some ((-2), q1.2)) else (mrd q1.2 219 31088 1).bind fun v3 => if v3 = 1 then (some ((-4), q1.2)) else (mrd q1.2 219 31088 0).bind fun v5 => if v5 = 40 then (f_X7_event_45 q1.2) else (f_X7_isTooGreat p1 q1.2).bind fun q7 => if q7.1 = 0 then ((f_X7_record q7.2).bind fun q9 => f_X7_event_56 fuelN p1 0 0 q9.2) else f_X7_event_45 q7.2
def f_X7_end_86 (k21 : Int32 → Int32 → Mem → Option Rv) (k50 : Int32 → Int32 → Int32 → Mem → Option Rv) (x1 : Int32) (x2 : Int32) (x3 : Int32) (s0 : Int32) (s1 : Int32) (s2 : Int32) (M : Mem) : Option Rv := (f_X7_store s2 s1 s0 M).bind fun q1 => k50 x1 x2 (x3 + 1) q1.2
def f_X7_end_119 (k21 : Int32 → Int32 → Mem → Option Rv) (x1 : Int32) (x2 : Int32) (M : Mem) : Option Rv := k21 x1 (x2 + 1) M
def f_X7_end_50 (k21 : Int32 → Int32 → Mem → Option Rv) : Nat → Int32 → Int32 → Int32 → Mem → Option Rv
  | 0, _, _, _, _ => none
  | n + 1, x1, x2, x3, M => (f_X7_w x2 M).bind fun q1 => (mrd q1.2 219 31088 (q1.1 + 5)).bind fun v2 => if x3 < v2 then ((f_X7_loadAlone x2 x3 q1.2).bind fun q8 => (f_X7_isTrue q8.1 q8.2).bind fun q9 => if q9.1 = 0 then (f_X7_end_86 k21 (f_X7_end_50 k21 n) x1 x2 x3 0 x3 x2 q9.2) else f_X7_end_86 k21 (f_X7_end_50 k21 n) x1 x2 x3 1 x3 x2 q9.2) else (f_X7_w x2 q1.2).bind fun q4 => (f_X7_verdictBy x2 q4.2).bind fun q5 => (mst q5.2 219 31088 (q4.1 + 1) q5.1).bind fun M6 => (f_X7_verdict x2 M6).bind fun q7 => f_X7_end_119 k21 (x1 + q7.1) x2 q7.2
def f_X7_end_21 : Nat → Int32 → Int32 → Mem → Option Rv
  | 0, _, _, _ => none
  | n + 1, x1, x2, M => (mrd M 219 31088 2).bind fun v1 => if x2 < v1 then ((f_X7_isThere x2 M).bind fun q4 => if q4.1 = 0 then (f_X7_end_119 (f_X7_end_21 n) x1 x2 q4.2) else (f_X7_verdict x2 q4.2).bind fun q6 => if q6.1 = 2 then (f_X7_end_50 (f_X7_end_21 n) fuelN x1 x2 0 q6.2) else f_X7_end_119 (f_X7_end_21 n) x1 x2 q6.2) else (mst M 219 31088 1 1).bind fun M3 => some (x1, M3)
def f_X7_end (M : Mem) : Option Rv := (mrd M 219 31088 1).bind fun v1 => if v1 = 1 then (some ((-4), M)) else (f_X7_record M).bind fun q3 => f_X7_end_21 fuelN 0 0 q3.2
def f_X7_isThing_29 (s0 : Int32) (M : Mem) : Option Rv := mrz s0 M
def f_X7_isThing_24 (M : Mem) : Option Rv := f_X7_isThing_29 1 M
def f_X7_isThing_12 (x0 : Int32) (M : Mem) : Option Rv := if x0 = 49 then (f_X7_isThing_24 M) else if x0 = 48 then (f_X7_isThing_24 M) else f_X7_isThing_29 0 M
def f_X7_isThing (p1 : Int32) (M : Mem) : Option Rv := if p1 < 97 then (f_X7_isThing_12 p1 M) else if 102 < p1 then (f_X7_isThing_12 p1 M) else f_X7_isThing_24 M
def f_X7_isAheadSign_35 (s0 : Int32) (M : Mem) : Option Rv := mrz s0 M
def f_X7_isAheadSign_30 (M : Mem) : Option Rv := f_X7_isAheadSign_35 1 M
def f_X7_isAheadSign (p1 : Int32) (M : Mem) : Option Rv := if p1 = 33 then (f_X7_isAheadSign_30 M) else if p1 = 88 then (f_X7_isAheadSign_30 M) else if p1 = 78 then (f_X7_isAheadSign_30 M) else if p1 = 71 then (f_X7_isAheadSign_30 M) else if p1 = 70 then (f_X7_isAheadSign_30 M) else f_X7_isAheadSign_35 0 M
def f_X7_rank_37 (s0 : Int32) (M : Mem) : Option Rv := some (s0, M)
def f_X7_rank_32 (M : Mem) : Option Rv := f_X7_rank_37 3 M
def f_X7_rank (p1 : Int32) (M : Mem) : Option Rv := if p1 = 124 then (f_X7_rank_37 1 M) else if p1 = 38 then (f_X7_rank_37 2 M) else if p1 = 85 then (f_X7_rank_32 M) else if p1 = 82 then (f_X7_rank_32 M) else f_X7_rank_37 0 M
def f_X7_faultOf_153 (k6 : Int32 → Int32 → Int32 → Mem → Option Rv) (x1 : Int32) (x3 : Int32) (s0 : Int32) (M : Mem) : Option Rv := k6 x1 s0 (x3 + 1) M
def f_X7_faultOf_119 (k6 : Int32 → Int32 → Int32 → Mem → Option Rv) (x2 : Int32) (x3 : Int32) (x4 : Int32) (s0 : Int32) (s1 : Int32) (M : Mem) : Option Rv := if x2 = 0 then (if x4 = 41 then (f_X7_faultOf_153 k6 (s1 + s0) x3 0 M) else f_X7_faultOf_153 k6 (s1 + s0) x3 1 M) else (f_X7_isThing x4 M).bind fun q3 => if q3.1 = 0 then (f_X7_faultOf_153 k6 (s1 + s0) x3 1 q3.2) else f_X7_faultOf_153 k6 (s1 + s0) x3 0 q3.2
def f_X7_faultOf_86 (k6 : Int32 → Int32 → Int32 → Mem → Option Rv) (x1 : Int32) (x2 : Int32) (x3 : Int32) (x4 : Int32) (s0 : Int32) (M : Mem) : Option Rv := if s0 = 0 then (some (x3, M)) else if x4 = 40 then (f_X7_faultOf_119 k6 x2 x3 x4 1 x1 M) else if x4 = 41 then (f_X7_faultOf_119 k6 x2 x3 x4 (-1) x1 M) else f_X7_faultOf_119 k6 x2 x3 x4 0 x1 M
def f_X7_faultOf_54 (k6 : Int32 → Int32 → Int32 → Mem → Option Rv) (x1 : Int32) (x2 : Int32) (x3 : Int32) (x4 : Int32) (M : Mem) : Option Rv := f_X7_faultOf_86 k6 x1 x2 x3 x4 1 M
def f_X7_faultOf_58 (k6 : Int32 → Int32 → Int32 → Mem → Option Rv) (x1 : Int32) (x2 : Int32) (x3 : Int32) (x4 : Int32) (M : Mem) : Option Rv := f_X7_faultOf_86 k6 x1 x2 x3 x4 0 M
def f_X7_faultOf_81 (k6 : Int32 → Int32 → Int32 → Mem → Option Rv) (x1 : Int32) (x2 : Int32) (x3 : Int32) (x4 : Int32) (M : Mem) : Option Rv := f_X7_faultOf_86 k6 x1 x2 x3 x4 1 M
def f_X7_faultOf_85 (k6 : Int32 → Int32 → Int32 → Mem → Option Rv) (x1 : Int32) (x2 : Int32) (x3 : Int32) (x4 : Int32) (M : Mem) : Option Rv := f_X7_faultOf_86 k6 x1 x2 x3 x4 0 M
def f_X7_faultOf_176 (s0 : Int32) (M : Mem) : Option Rv := some (s0, M)
def f_X7_faultOf_168 (M : Mem) : Option Rv := f_X7_faultOf_176 (M 218 23) M
def f_X7_faultOf_6 : Nat → Int32 → Int32 → Int32 → Mem → Option Rv
  | 0, _, _, _, _ => none
  | n + 1, x1, x2, x3, M => if x3 < (M 218 23) then ((mrd M 234 60 x3).bind fun v4 => if x2 = 0 then ((f_X7_rank v4 M).bind fun q6 => if 0 < q6.1 then (f_X7_faultOf_81 (f_X7_faultOf_6 n) x1 x2 x3 v4 q6.2) else if v4 = 41 then (if 0 < x1 then (f_X7_faultOf_81 (f_X7_faultOf_6 n) x1 x2 x3 v4 q6.2) else f_X7_faultOf_85 (f_X7_faultOf_6 n) x1 x2 x3 v4 q6.2) else f_X7_faultOf_85 (f_X7_faultOf_6 n) x1 x2 x3 v4 q6.2) else (f_X7_isThing v4 M).bind fun q10 => if q10.1 = 0 then ((f_X7_isAheadSign v4 q10.2).bind fun q12 => if q12.1 = 0 then (if v4 = 40 then (if x1 < 4 then (f_X7_faultOf_54 (f_X7_faultOf_6 n) x1 x2 x3 v4 q12.2) else f_X7_faultOf_58 (f_X7_faultOf_6 n) x1 x2 x3 v4 q12.2) else f_X7_faultOf_58 (f_X7_faultOf_6 n) x1 x2 x3 v4 q12.2) else f_X7_faultOf_54 (f_X7_faultOf_6 n) x1 x2 x3 v4 q12.2) else f_X7_faultOf_54 (f_X7_faultOf_6 n) x1 x2 x3 v4 q10.2) else if x2 = 0 then (if 0 < x1 then (f_X7_faultOf_168 M) else f_X7_faultOf_176 (-1) M) else f_X7_faultOf_168 M
def f_X7_faultOf (M : Mem) : Option Rv := f_X7_faultOf_6 fuelN 0 1 0 M
def f_X7_apply_118 (s0 : Int32) (s1 : Int32) (M : Mem) : Option Rv := (mst M 231 64 s1 s0).bind fun M1 => some (0, M1)
def f_X7_apply_202 (s0 : Int32) (s1 : Int32) (M : Mem) : Option Rv := (mst M 231 64 s1 s0).bind fun M1 => some (0, M1)
def f_X7_apply_197 (x2 : Int32) (x3 : Int32) (s0 : Int32) (s2 : Int32) (M : Mem) : Option Rv := (f_X7_make s0 x3 x2 M).bind fun q1 => f_X7_apply_202 q1.1 s2 q1.2
def f_X7_apply (M : Mem) : Option Rv := (mpi M 218 19 ((M 218 19) - 1)).bind fun M1 => (mrd M1 232 80 (M1 218 19)).bind fun v2 => (mrd M1 231 64 ((M1 218 18) - 1)).bind fun v3 => (f_X7_isAheadSign v2 M1).bind fun q4 => if q4.1 = 0 then ((mpi q4.2 218 18 ((q4.2 218 18) - 1)).bind fun M6 => (mrd M6 231 64 ((M6 218 18) - 1)).bind fun v7 => if v2 = 124 then ((f_X7_both 6 v7 v3 M6).bind fun q12 => f_X7_apply_202 q12.1 ((M6 218 18) - 1) q12.2) else if v2 = 38 then ((f_X7_both 5 v7 v3 M6).bind fun q11 => f_X7_apply_202 q11.1 ((M6 218 18) - 1) q11.2) else if v2 = 85 then (f_X7_apply_197 v3 v7 3 ((M6 218 18) - 1) M6) else f_X7_apply_197 v3 v7 4 ((M6 218 18) - 1) M6) else if v2 = 33 then ((f_X7_opposite v3 q4.2).bind fun q21 => f_X7_apply_118 q21.1 ((q4.2 218 18) - 1) q21.2) else if v2 = 88 then ((f_X7_make 1 v3 0 q4.2).bind fun q20 => f_X7_apply_118 q20.1 ((q4.2 218 18) - 1) q20.2) else if v2 = 78 then ((f_X7_make 2 v3 0 q4.2).bind fun q19 => f_X7_apply_118 q19.1 ((q4.2 218 18) - 1) q19.2) else if v2 = 71 then ((f_X7_make 4 0 v3 q4.2).bind fun q18 => f_X7_apply_118 q18.1 ((q4.2 218 18) - 1) q18.2) else (f_X7_make 3 1 v3 q4.2).bind fun q17 => f_X7_apply_118 q17.1 ((q4.2 218 18) - 1) q17.2
def f_X7_applyAhead_31 (M : Mem) : Option Rv := some (0, M)
def f_X7_applyAhead_0 : Nat → Mem → Option Rv
  | 0, _ => none
  | n + 1, M => if 0 < (M 218 19) then ((mrd M 232 80 ((M 218 19) - 1)).bind fun v2 => (f_X7_isAheadSign v2 M).bind fun q3 => if q3.1 = 0 then (f_X7_applyAhead_31 q3.2) else (f_X7_apply q3.2).bind fun q5 => f_X7_applyAhead_0 n q5.2) else f_X7_applyAhead_31 M
def f_X7_applyAhead (M : Mem) : Option Rv := f_X7_applyAhead_0 fuelN M
def f_X7_readOne_41 (s0 : Int32) (s1 : Int32) (M : Mem) : Option Rv := (mst M 231 64 s1 s0).bind fun M1 => (mpi M1 218 18 ((M1 218 18) + 1)).bind fun M2 => (f_X7_applyAhead M2).bind fun q3 => some (0, q3.2)
def f_X7_readOne_63 : Nat → Mem → Option Rv
  | 0, _ => none
  | n + 1, M => (mrd M 232 80 ((M 218 19) - 1)).bind fun v1 => if v1 = 40 then ((mpi M 218 19 ((M 218 19) - 1)).bind fun M3 => (f_X7_applyAhead M3).bind fun q4 => some (0, q4.2)) else (f_X7_apply M).bind fun q5 => f_X7_readOne_63 n q5.2
def f_X7_readOne_165 (k101 : Int32 → Mem → Option Rv) (x1 : Int32) (M : Mem) : Option Rv := (f_X7_apply M).bind fun q1 => k101 x1 q1.2
def f_X7_readOne_172 (x1 : Int32) (M : Mem) : Option Rv := (mst M 232 80 (M 218 19) (nc x1)).bind fun M1 => (mpi M1 218 19 ((M1 218 19) + 1)).bind fun M2 => some (0, M2)
def f_X7_readOne_101 : Nat → Int32 → Mem → Option Rv
  | 0, _, _ => none
  | n + 1, x1, M => (f_X7_rank x1 M).bind fun q1 => if 0 < q1.1 then (if 0 < (q1.2 218 19) then ((mrd q1.2 232 80 ((q1.2 218 19) - 1)).bind fun v4 => (f_X7_rank v4 q1.2).bind fun q5 => (f_X7_rank x1 q5.2).bind fun q6 => if q6.1 < q5.1 then (f_X7_readOne_165 (f_X7_readOne_101 n) x1 q6.2) else (mrd q6.2 232 80 ((q6.2 218 19) - 1)).bind fun v8 => (f_X7_rank v8 q6.2).bind fun q9 => (f_X7_rank x1 q9.2).bind fun q10 => if q9.1 = q10.1 then ((f_X7_rank x1 q10.2).bind fun q12 => if q12.1 < 3 then (f_X7_readOne_165 (f_X7_readOne_101 n) x1 q12.2) else f_X7_readOne_172 x1 q12.2) else f_X7_readOne_172 x1 q10.2) else f_X7_readOne_172 x1 q1.2) else f_X7_readOne_172 x1 q1.2
def f_X7_readOne (p1 : Int32) (M : Mem) : Option Rv := (f_X7_isThing p1 M).bind fun q1 => if q1.1 = 0 then (if p1 = 41 then (f_X7_readOne_63 fuelN q1.2) else f_X7_readOne_101 fuelN p1 q1.2) else if p1 = 48 then (f_X7_readOne_41 0 (q1.2 218 18) q1.2) else if p1 = 49 then (f_X7_readOne_41 1 (q1.2 218 18) q1.2) else f_X7_readOne_41 ((4 + p1) - 97) (q1.2 218 18) q1.2
def f_X7_read_40 : Nat → Mem → Option Rv
  | 0, _ => none
  | n + 1, M => if 0 < (M 218 19) then ((f_X7_apply M).bind fun q3 => f_X7_read_40 n q3.2) else (mrd M 231 64 0).bind fun v2 => some (v2, M)
def f_X7_read_16 : Nat → Int32 → Mem → Option Rv
  | 0, _, _ => none
  | n + 1, x1, M => if x1 < (M 218 23) then ((mrd M 234 60 x1).bind fun v2 => (f_X7_readOne v2 M).bind fun q3 => f_X7_read_16 n (x1 + 1) q3.2) else f_X7_read_40 fuelN M
def f_X7_read (M : Mem) : Option Rv := (f_X7_empty M).bind fun q1 => (mpi q1.2 218 18 0).bind fun M2 => (mpi M2 218 19 0).bind fun M3 => f_X7_read_16 fuelN 0 M3
def f_X7_partMany_26 (s0 : Int32) (M : Mem) : Option Rv := some (s0, M)
def f_X7_partMany_25 (M : Mem) : Option Rv := f_X7_partMany_26 1 M
def f_X7_partMany (p1 : Int32) (M : Mem) : Option Rv := if p1 < 16 then (f_X7_partMany_25 M) else (mrd M 222 8000 p1).bind fun v2 => if v2 = 5 then ((mrd M 224 8000 p1).bind fun v4 => f_X7_partMany_26 v4 M) else f_X7_partMany_25 M
def f_X7_partForm_33 (s0 : Int32) (M : Mem) : Option Rv := some (s0, M)
def f_X7_partForm_32 (x1 : Int32) (M : Mem) : Option Rv := f_X7_partForm_33 x1 M
def f_X7_partForm (p1 : Int32) (p2 : Int32) (M : Mem) : Option Rv := if p1 < 16 then (f_X7_partForm_32 p1 M) else (mrd M 222 8000 p1).bind fun v2 => if v2 = 5 then ((mrd M 223 8000 p1).bind fun v4 => (mrd M 229 90000 (v4 + p2)).bind fun v5 => f_X7_partForm_33 v5 M) else f_X7_partForm_32 p1 M
def f_X7_comes_70 : Nat → Int32 → Int32 → Int32 → Int32 → Mem → Option Rv
  | 0, _, _, _, _, _ => none
  | n + 1, x1, x2, x3, x4, M => (mrd M 219 31088 (x3 + 5)).bind fun v1 => if x4 < v1 then ((f_X7_partForm x1 x4 M).bind fun q7 => (f_X7_store x2 x4 q7.1 q7.2).bind fun q8 => f_X7_comes_70 n x1 x2 x3 (x4 + 1) q8.2) else (f_X7_verdictBy x2 M).bind fun q3 => (mst q3.2 219 31088 (x3 + 1) q3.1).bind fun M4 => (mrd M4 219 31088 2).bind fun v5 => (mst M4 219 31088 2 (v5 + 1)).bind fun M6 => some (x2, M6)
def f_X7_comes (p1 : Int32) (M : Mem) : Option Rv := (mrd M 219 31088 2).bind fun v1 => (f_X7_w v1 M).bind fun q2 => (mst q2.2 219 31088 (q2.1 + 0) 1).bind fun M3 => (mst M3 219 31088 (q2.1 + 2) (-5)).bind fun M4 => (mst M4 219 31088 (q2.1 + 3) 0).bind fun M5 => (mrd M5 219 31088 0).bind fun v6 => (mst M5 219 31088 (q2.1 + 4) v6).bind fun M7 => (f_X7_partMany p1 M7).bind fun q8 => (mst q8.2 219 31088 (q2.1 + 5) q8.1).bind fun M9 => f_X7_comes_70 fuelN p1 v1 q2.1 0 M9
def f_X7_addWish_53 (M : Mem) : Option Rv := some ((-3), M)
def f_X7_addWish (M : Mem) : Option Rv := (f_X7_faultOf M).bind fun q1 => if q1.1 < 0 then ((mrd q1.2 219 31088 1).bind fun v3 => if v3 = 1 then (some ((-4), q1.2)) else (f_X7_read q1.2).bind fun q5 => (mrd q5.2 219 31088 2).bind fun v6 => if v6 = 8 then (f_X7_addWish_53 q5.2) else (f_X7_partMany q5.1 q5.2).bind fun q8 => if 8 < q8.1 then (f_X7_addWish_53 q8.2) else (f_X7_record q8.2).bind fun q10 => (f_X7_comes q5.1 q10.2).bind fun q11 => some (q11.1, q11.2)) else some ((-100) - q1.1, q1.2)
def f_X7_allOf_56 : Nat → Int32 → Mem → Option Rv
  | 0, _, _ => none
  | n + 1, x2, M => if x2 < (M 218 21) then ((mrd M 233 16 x2).bind fun v3 => (f_X7_putIn 5 v3 M).bind fun q4 => f_X7_allOf_56 n (x2 + 1) q4.2) else (f_X7_endPut 5 M).bind fun q2 => some (q2.1, q2.2)
def f_X7_allOf_7 : Nat → Int32 → Int32 → Mem → Option Rv
  | 0, _, _, _ => none
  | n + 1, x1, x2, M => (f_X7_w x1 M).bind fun q1 => (mrd q1.2 219 31088 (q1.1 + 5)).bind fun v2 => if x2 < v2 then ((f_X7_load x1 x2 q1.2).bind fun q5 => (mst q5.2 233 16 x2 q5.1).bind fun M6 => (mpi M6 218 21 ((M6 218 21) + 1)).bind fun M7 => f_X7_allOf_7 n x1 (x2 + 1) M7) else (f_X7_beginPut q1.2).bind fun q4 => f_X7_allOf_56 fuelN 0 q4.2
def f_X7_allOf (p1 : Int32) (M : Mem) : Option Rv := (mpi M 218 21 0).bind fun M1 => f_X7_allOf_7 fuelN p1 0 M1
def f_X7_join_16 (M : Mem) : Option Rv := some ((-1), M)
def f_X7_join_125 (k86 : Int32 → Int32 → Int32 → Mem → Option Rv) (x5 : Int32) (x7 : Int32) (s0 : Int32) (M : Mem) : Option Rv := k86 x5 s0 (x7 + 1) M
def f_X7_join_120 (k86 : Int32 → Int32 → Int32 → Mem → Option Rv) (x5 : Int32) (x7 : Int32) (M : Mem) : Option Rv := f_X7_join_125 k86 x5 x7 1 M
def f_X7_join_149 (M : Mem) : Option Rv := some ((-3), M)
def f_X7_join_86 : Nat → Int32 → Int32 → Int32 → Mem → Option Rv
  | 0, _, _, _, _ => none
  | n + 1, x5, x6, x7, M => (f_X7_partMany x5 M).bind fun q1 => if x7 < q1.1 then (if x6 = 0 then ((f_X7_partForm x5 x7 q1.2).bind fun q9 => (mrd q9.2 225 8000 q9.1).bind fun v10 => if 120 < v10 then (f_X7_join_120 (f_X7_join_86 n) x5 x7 q9.2) else f_X7_join_125 (f_X7_join_86 n) x5 x7 0 q9.2) else f_X7_join_120 (f_X7_join_86 n) x5 x7 q1.2) else (mrd q1.2 219 31088 2).bind fun v3 => if v3 = 8 then (f_X7_join_149 q1.2) else if x6 = 0 then ((f_X7_record q1.2).bind fun q6 => (f_X7_comes x5 q6.2).bind fun q7 => some (q7.1, q7.2)) else f_X7_join_149 q1.2
def f_X7_join_81 (x5 : Int32) (s0 : Int32) (M : Mem) : Option Rv := f_X7_join_86 fuelN x5 s0 0 M
def f_X7_join_53 (x2 : Int32) (x4 : Int32) (s0 : Int32) (M : Mem) : Option Rv := (f_X7_allOf x2 M).bind fun q1 => (f_X7_both s0 x4 q1.1 q1.2).bind fun q2 => (f_X7_partMany q2.1 q2.2).bind fun q3 => if 8 < q3.1 then (f_X7_join_81 q2.1 1 q3.2) else f_X7_join_81 q2.1 0 q3.2
def f_X7_join (p1 : Int32) (p2 : Int32) (p3 : Int32) (M : Mem) : Option Rv := (f_X7_isThere p1 M).bind fun q1 => if q1.1 = 0 then (f_X7_join_16 q1.2) else (f_X7_isThere p2 q1.2).bind fun q3 => if q3.1 = 0 then (f_X7_join_16 q3.2) else (mrd q3.2 219 31088 1).bind fun v5 => if v5 = 1 then (some ((-4), q3.2)) else (f_X7_empty q3.2).bind fun q7 => (f_X7_allOf p1 q7.2).bind fun q8 => if p3 = 0 then (f_X7_join_53 p2 q8.1 5 q8.2) else f_X7_join_53 p2 q8.1 6 q8.2
def f_X7_thereMany_24 (k4 : Int32 → Int32 → Mem → Option Rv) (x2 : Int32) (s0 : Int32) (s1 : Int32) (M : Mem) : Option Rv := k4 (s1 + s0) (x2 + 1) M
def f_X7_thereMany_4 : Nat → Int32 → Int32 → Mem → Option Rv
  | 0, _, _, _ => none
  | n + 1, x1, x2, M => if x2 < 8 then ((f_X7_isThere x2 M).bind fun q2 => if q2.1 = 0 then (f_X7_thereMany_24 (f_X7_thereMany_4 n) x2 0 x1 q2.2) else f_X7_thereMany_24 (f_X7_thereMany_4 n) x2 1 x1 q2.2) else some (x1, M)
def f_X7_thereMany (M : Mem) : Option Rv := f_X7_thereMany_4 fuelN 0 0 M
def f_X7_removeWish (p1 : Int32) (M : Mem) : Option Rv := (f_X7_isThere p1 M).bind fun q1 => if q1.1 = 0 then (some ((-1), q1.2)) else (f_X7_record q1.2).bind fun q3 => (f_X7_w p1 q3.2).bind fun q4 => (mst q4.2 219 31088 (q4.1 + 0) 0).bind fun M5 => (f_X7_thereMany M5).bind fun q6 => some (q6.1, q6.2)
def f_X7_type (p1 : Int32) (M : Mem) : Option Rv := if (M 218 23) = 60 then (some ((-3), M)) else (mst M 234 60 (M 218 23) (nc p1)).bind fun M2 => (mpi M2 218 23 ((M2 218 23) + 1)).bind fun M3 => some (M3 218 23, M3)
def f_X7_clearText (M : Mem) : Option Rv := (mpi M 218 23 0).bind fun M1 => some (M 218 23, M1)
def f_X7_undo_22 : Nat → Int32 → Mem → Option Rv
  | 0, _, _ => none
  | n + 1, x1, M => if x1 < 31088 then ((mrd M 220 124352 ((31088 * (M 218 24)) + x1)).bind fun v2 => (mst M 219 31088 x1 v2).bind fun M3 => f_X7_undo_22 n (x1 + 1) M3) else some (M 218 24, M)
def f_X7_undo (M : Mem) : Option Rv := if (M 218 24) = 0 then (some ((-5), M)) else (mpi M 218 24 ((M 218 24) - 1)).bind fun M2 => f_X7_undo_22 fuelN 0 M2
def f_X7_keep_2 : Nat → Int32 → Mem → Option Rv
  | 0, _, _ => none
  | n + 1, x1, M => if x1 < 31088 then ((mrd M 219 31088 x1).bind fun v4 => (mst M 221 31088 x1 v4).bind fun M5 => f_X7_keep_2 n (x1 + 1) M5) else (mpz M 218 25 1).bind fun M2 => (mrd M2 219 31088 0).bind fun v3 => some (v3, M2)
def f_X7_keep (M : Mem) : Option Rv := f_X7_keep_2 fuelN 0 M
def f_X7_restore_16 : Nat → Int32 → Mem → Option Rv
  | 0, _, _ => none
  | n + 1, x1, M => if x1 < 31088 then ((mrd M 221 31088 x1).bind fun v3 => (mst M 219 31088 x1 v3).bind fun M4 => f_X7_restore_16 n (x1 + 1) M4) else (mrd M 219 31088 0).bind fun v2 => some (v2, M)
def f_X7_restore (M : Mem) : Option Rv := if (M 218 25) = 0 then (some ((-5), M)) else (f_X7_record M).bind fun q2 => f_X7_restore_16 fuelN 0 q2.2
def f_X7_areTrue_41 (k4 : Int32 → Int32 → Int32 → Mem → Option Rv) (x1 : Int32) (x3 : Int32) (s0 : Int32) (M : Mem) : Option Rv := k4 x1 s0 (x3 + 1) M
def f_X7_areTrue_40 (k4 : Int32 → Int32 → Int32 → Mem → Option Rv) (x1 : Int32) (x3 : Int32) (M : Mem) : Option Rv := f_X7_areTrue_41 k4 x1 x3 0 M
def f_X7_areTrue_4 : Nat → Int32 → Int32 → Int32 → Mem → Option Rv
  | 0, _, _, _, _ => none
  | n + 1, x1, x2, x3, M => (f_X7_w x1 M).bind fun q1 => (mrd q1.2 219 31088 (q1.1 + 5)).bind fun v2 => if x3 < v2 then (if x2 = 0 then (f_X7_areTrue_40 (f_X7_areTrue_4 n) x1 x3 q1.2) else (f_X7_loadAlone x1 x3 q1.2).bind fun q5 => (f_X7_isTrue q5.1 q5.2).bind fun q6 => if q6.1 = 0 then (f_X7_areTrue_40 (f_X7_areTrue_4 n) x1 x3 q6.2) else f_X7_areTrue_41 (f_X7_areTrue_4 n) x1 x3 1 q6.2) else mrz x2 q1.2
def f_X7_areTrue (p1 : Int32) (M : Mem) : Option Rv := f_X7_areTrue_4 fuelN p1 1 0 M
def f_X7_sizes_4 : Nat → Int32 → Int32 → Int32 → Mem → Option Rv
  | 0, _, _, _, _ => none
  | n + 1, x1, x2, x3, M => (f_X7_w x1 M).bind fun q1 => (mrd q1.2 219 31088 (q1.1 + 5)).bind fun v2 => if x3 < v2 then ((f_X7_loadAlone x1 x3 q1.2).bind fun q4 => (mrd q4.2 225 8000 q4.1).bind fun v5 => f_X7_sizes_4 n x1 (x2 + v5) (x3 + 1) q4.2) else some (x2, q1.2)
def f_X7_sizes (p1 : Int32) (M : Mem) : Option Rv := f_X7_sizes_4 fuelN p1 0 0 M
def f_X7_wish_148 (s0 : Int32) (M : Mem) : Option Rv := some (s0, M)
def f_X7_wish (p1 : Int32) (p2 : Int32) (M : Mem) : Option Rv := (f_X7_isThere p1 M).bind fun q1 => if q1.1 = 0 then (some ((-1), q1.2)) else (f_X7_w p1 q1.2).bind fun q3 => if p2 = 0 then ((mrd q3.2 219 31088 (q3.1 + 1)).bind fun v5 => some (v5, q3.2)) else if p2 = 1 then ((mrd q3.2 219 31088 (q3.1 + 5)).bind fun v7 => some (v7, q3.2)) else if p2 = 2 then ((f_X7_partsThat p1 0 q3.2).bind fun q9 => some (q9.1, q9.2)) else if p2 = 3 then ((f_X7_partsThat p1 1 q3.2).bind fun q11 => some (q11.1, q11.2)) else if p2 = 4 then ((mrd q3.2 219 31088 (q3.1 + 2)).bind fun v13 => some (v13, q3.2)) else if p2 = 5 then ((mrd q3.2 219 31088 (q3.1 + 3)).bind fun v15 => some (v15, q3.2)) else if p2 = 6 then ((f_X7_verdict p1 q3.2).bind fun q17 => if q17.1 < 2 then ((f_X7_verdict p1 q17.2).bind fun q21 => f_X7_wish_148 q21.1 q21.2) else (f_X7_areTrue p1 q17.2).bind fun q19 => if q19.1 = 0 then (f_X7_wish_148 0 q19.2) else f_X7_wish_148 1 q19.2) else if p2 = 7 then ((f_X7_sizes p1 q3.2).bind fun q23 => some (q23.1, q23.2)) else if p2 = 8 then ((mrd q3.2 219 31088 (q3.1 + 4)).bind fun v25 => some (v25, q3.2)) else some ((-2), q3.2)
def f_X7_isPart_34 (s0 : Int32) (M : Mem) : Option Rv := mrz s0 M
def f_X7_isPart_33 (M : Mem) : Option Rv := f_X7_isPart_34 0 M
def f_X7_isPart (p1 : Int32) (p2 : Int32) (M : Mem) : Option Rv := (f_X7_isThere p1 M).bind fun q1 => if q1.1 = 0 then (f_X7_isPart_33 q1.2) else (f_X7_w p1 q1.2).bind fun q3 => (mrd q3.2 219 31088 (q3.1 + 5)).bind fun v4 => (f_X7_in p2 0 (v4 - 1) q3.2).bind fun q5 => if q5.1 = 0 then (f_X7_isPart_33 q5.2) else f_X7_isPart_34 1 q5.2
def f_X7_letterOf_117 (k5 : Int32 → Int32 → Mem → Option Rv) (x3 : Int32) (x4 : Int32) (x5 : Int32) (M : Mem) : Option Rv := (f_X7_child x3 x5 M).bind fun q1 => k5 q1.1 x4 q1.2
def f_X7_letterOf_82 (k5 : Int32 → Int32 → Mem → Option Rv) (x3 : Int32) (x4 : Int32) (x5 : Int32) (M : Mem) : Option Rv := (f_X7_begins x3 M).bind fun q1 => if q1.1 = 40 then ((f_X7_child x3 x5 q1.2).bind fun q3 => (mrd q3.2 226 8000 q3.1).bind fun v4 => if x4 = v4 then ((f_X7_behind x3 x5 q3.2).bind fun q6 => some (q6.1, q6.2)) else f_X7_letterOf_117 k5 x3 x4 x5 q3.2) else f_X7_letterOf_117 k5 x3 x4 x5 q1.2
def f_X7_letterOf_30 (k5 : Int32 → Int32 → Mem → Option Rv) : Nat → Int32 → Int32 → Int32 → Mem → Option Rv
  | 0, _, _, _, _ => none
  | n + 1, x3, x4, x5, M => (f_X7_begins x3 M).bind fun q1 => if q1.1 = 40 then ((f_X7_child x3 x5 q1.2).bind fun q3 => (mrd q3.2 226 8000 q3.1).bind fun v4 => if v4 < x4 then ((f_X7_child x3 x5 q3.2).bind fun q6 => (mrd q6.2 226 8000 q6.1).bind fun v7 => f_X7_letterOf_30 k5 n x3 (x4 - (v7 + 1)) (x5 + 1) q6.2) else f_X7_letterOf_82 k5 x3 x4 x5 q3.2) else f_X7_letterOf_82 k5 x3 x4 x5 q1.2
def f_X7_letterOf_5 : Nat → Int32 → Int32 → Mem → Option Rv
  | 0, _, _, _ => none
  | n + 1, x3, x4, M => if 0 < x4 then (if x3 < 16 then (some ((97 + x3) - 10, M)) else f_X7_letterOf_30 (f_X7_letterOf_5 n) fuelN x3 (x4 - 1) 0 M) else (f_X7_begins x3 M).bind fun q2 => some (q2.1, q2.2)
def f_X7_letterOf (p1 : Int32) (p2 : Int32) (M : Mem) : Option Rv := f_X7_letterOf_5 fuelN p1 p2 M
def f_X7_letter_49 (s0 : Int32) (M : Mem) : Option Rv := some (s0, M)
def f_X7_letter (p1 : Int32) (p2 : Int32) (p3 : Int32) (M : Mem) : Option Rv := (f_X7_isPart p1 p2 M).bind fun q1 => if q1.1 = 0 then (some ((-1), q1.2)) else if p3 < 0 then (some ((-2), q1.2)) else (f_X7_loadAlone p1 p2 q1.2).bind fun q4 => (mrd q4.2 226 8000 q4.1).bind fun v5 => if p3 < v5 then ((f_X7_letterOf q4.1 p3 q4.2).bind fun q7 => f_X7_letter_49 q7.1 q7.2) else f_X7_letter_49 (-5) q4.2
def f_X7_signs_46 (k9 : Int32 → Int32 → Mem → Option Rv) (x3 : Int32) (s0 : Int32) (s1 : Int32) (M : Mem) : Option Rv := k9 (s1 ||| s0) (x3 + 1) M
def f_X7_signs_39 (k9 : Int32 → Int32 → Mem → Option Rv) (x3 : Int32) (s0 : Int32) (M : Mem) : Option Rv := f_X7_signs_46 k9 x3 (1 <<< ((x3 : Int32) &&& 31)) s0 M
def f_X7_signs_9 : Nat → Int32 → Int32 → Mem → Option Rv
  | 0, _, _, _ => none
  | n + 1, x2, x3, M => if x3 < 6 then ((mrd M 228 8000 (4 + x3)).bind fun v2 => if v2 = 0 then ((mrd M 228 8000 (10 + x3)).bind fun v4 => if v4 = 0 then (f_X7_signs_46 (f_X7_signs_9 n) x3 0 x2 M) else f_X7_signs_39 (f_X7_signs_9 n) x3 x2 M) else f_X7_signs_39 (f_X7_signs_9 n) x3 x2 M) else some (x2, M)
def f_X7_signs (p1 : Int32) (M : Mem) : Option Rv := (f_X7_mark p1 M).bind fun q1 => f_X7_signs_9 fuelN 0 0 q1.2
def f_X7_part_89 (s0 : Int32) (M : Mem) : Option Rv := some (s0, M)
def f_X7_part (p1 : Int32) (p2 : Int32) (p3 : Int32) (M : Mem) : Option Rv := (f_X7_isPart p1 p2 M).bind fun q1 => if q1.1 = 0 then (some ((-1), q1.2)) else (f_X7_loadAlone p1 p2 q1.2).bind fun q3 => if p3 = 0 then ((mrd q3.2 225 8000 q3.1).bind fun v5 => some (v5, q3.2)) else if p3 = 1 then ((mrd q3.2 226 8000 q3.1).bind fun v7 => some (v7, q3.2)) else if p3 = 2 then ((f_X7_signs q3.1 q3.2).bind fun q9 => some (q9.1, q9.2)) else if p3 = 3 then ((f_X7_isTrue q3.1 q3.2).bind fun q11 => if q11.1 = 0 then (f_X7_part_89 0 q11.2) else f_X7_part_89 1 q11.2) else some ((-2), q3.2)
def f_X7_would_44 (s0 : Int32) (M : Mem) : Option Rv := some (s0, M)
def f_X7_would (p1 : Int32) (p2 : Int32) (M : Mem) : Option Rv := (f_X7_isThere p1 M).bind fun q1 => if q1.1 = 0 then (some ((-1), q1.2)) else (f_X7_in p2 0 63 q1.2).bind fun q3 => if q3.1 = 0 then (some ((-2), q3.2)) else (mrd q3.2 219 31088 1).bind fun v5 => if v5 = 1 then (f_X7_would_44 (-4) q3.2) else (f_X7_wouldBe p1 p2 q3.2).bind fun q7 => f_X7_would_44 q7.1 q7.2
def f_X7_bears_115 (k45 : Int32 → Int32 → Int32 → Int32 → Int32 → Mem → Option Rv) (x1 : Int32) (x2 : Int32) (x3 : Int32) (x5 : Int32) (s0 : Int32) (M : Mem) : Option Rv := k45 x1 x2 x3 s0 (x5 - 1) M
def f_X7_bears_101 (k45 : Int32 → Int32 → Int32 → Int32 → Int32 → Mem → Option Rv) (x1 : Int32) (x2 : Int32) (x4 : Int32) (x5 : Int32) (x7 : Int32) (s0 : Int32) (s1 : Int32) (M : Mem) : Option Rv := if x7 = 0 then (f_X7_bears_115 k45 x1 x2 (s1 + s0) x5 x4 M) else f_X7_bears_115 k45 x1 x2 (s1 + s0) x5 x5 M
def f_X7_bears_88 (k45 : Int32 → Int32 → Int32 → Int32 → Int32 → Mem → Option Rv) (x1 : Int32) (x2 : Int32) (x3 : Int32) (x4 : Int32) (x5 : Int32) (s0 : Int32) (M : Mem) : Option Rv := if s0 = 0 then (f_X7_bears_101 k45 x1 x2 x4 x5 s0 0 x3 M) else f_X7_bears_101 k45 x1 x2 x4 x5 s0 1 x3 M
def f_X7_bears_135 (s0 : Int32) (M : Mem) : Option Rv := some (s0, M)
def f_X7_bears_45 : Nat → Int32 → Int32 → Int32 → Int32 → Int32 → Mem → Option Rv
  | 0, _, _, _, _, _, _ => none
  | n + 1, x1, x2, x3, x4, x5, M => if x5 < 0 then (if (x2 - x2 / 2 * 2) = 0 then (f_X7_bears_135 x3 M) else f_X7_bears_135 x4 M) else (f_X7_wouldBe x1 x5 M).bind fun q3 => if x2 < 2 then (if q3.1 = 0 then (f_X7_bears_88 (f_X7_bears_45 n) x1 x2 x3 x4 x5 0 q3.2) else f_X7_bears_88 (f_X7_bears_45 n) x1 x2 x3 x4 x5 1 q3.2) else if q3.1 = 1 then (f_X7_bears_88 (f_X7_bears_45 n) x1 x2 x3 x4 x5 1 q3.2) else f_X7_bears_88 (f_X7_bears_45 n) x1 x2 x3 x4 x5 0 q3.2
def f_X7_bears (p1 : Int32) (p2 : Int32) (M : Mem) : Option Rv := (f_X7_isThere p1 M).bind fun q1 => if q1.1 = 0 then (some ((-1), q1.2)) else (f_X7_in p2 0 3 q1.2).bind fun q3 => if q3.1 = 0 then (some ((-2), q3.2)) else (mrd q3.2 219 31088 1).bind fun v5 => if v5 = 1 then (some ((-4), q3.2)) else f_X7_bears_45 fuelN p1 p2 0 (-5) 63 q3.2
def f_X7_isOpen_22 (s0 : Int32) (M : Mem) : Option Rv := mrz s0 M
def f_X7_isOpen_21 (M : Mem) : Option Rv := f_X7_isOpen_22 0 M
def f_X7_isOpen (p1 : Int32) (M : Mem) : Option Rv := (f_X7_isThere p1 M).bind fun q1 => if q1.1 = 0 then (f_X7_isOpen_21 q1.2) else (f_X7_verdict p1 q1.2).bind fun q3 => if q3.1 = 2 then (f_X7_isOpen_22 1 q3.2) else f_X7_isOpen_21 q3.2
def f_X7_open_34 (k9 : Int32 → Int32 → Mem → Option Rv) (x1 : Int32) (x2 : Int32) (M : Mem) : Option Rv := k9 x1 (x2 + 1) M
def f_X7_open_126 (k45 : Int32 → Int32 → Int32 → Mem → Option Rv) (k57 : Int32 → Int32 → Int32 → Int32 → Int32 → Mem → Option Rv) (x1 : Int32) (x2 : Int32) (x3 : Int32) (x5 : Int32) (s0 : Int32) (s1 : Int32) (M : Mem) : Option Rv := k57 x1 x2 x3 (s1 + s0) (x5 + 1) M
def f_X7_open_121 (k45 : Int32 → Int32 → Int32 → Mem → Option Rv) (k57 : Int32 → Int32 → Int32 → Int32 → Int32 → Mem → Option Rv) (x1 : Int32) (x2 : Int32) (x3 : Int32) (x5 : Int32) (s0 : Int32) (M : Mem) : Option Rv := f_X7_open_126 k45 k57 x1 x2 x3 x5 1 s0 M
def f_X7_open_125 (k45 : Int32 → Int32 → Int32 → Mem → Option Rv) (k57 : Int32 → Int32 → Int32 → Int32 → Int32 → Mem → Option Rv) (x1 : Int32) (x2 : Int32) (x3 : Int32) (x5 : Int32) (s0 : Int32) (M : Mem) : Option Rv := f_X7_open_126 k45 k57 x1 x2 x3 x5 0 s0 M
def f_X7_open_154 (k45 : Int32 → Int32 → Int32 → Mem → Option Rv) (x1 : Int32) (x3 : Int32) (s0 : Int32) (M : Mem) : Option Rv := k45 x1 s0 (x3 + 1) M
def f_X7_open_153 (k45 : Int32 → Int32 → Int32 → Mem → Option Rv) (x1 : Int32) (x2 : Int32) (x3 : Int32) (M : Mem) : Option Rv := f_X7_open_154 k45 x1 x3 x2 M
def f_X7_open_135 (k45 : Int32 → Int32 → Int32 → Mem → Option Rv) (x1 : Int32) (x2 : Int32) (x3 : Int32) (x4 : Int32) (M : Mem) : Option Rv := (f_X7_isOpen x3 M).bind fun q1 => if q1.1 = 0 then (f_X7_open_153 k45 x1 x2 x3 q1.2) else if x4 = x1 then (f_X7_open_154 k45 x1 x3 x3 q1.2) else f_X7_open_153 k45 x1 x2 x3 q1.2
def f_X7_open_57 (k45 : Int32 → Int32 → Int32 → Mem → Option Rv) : Nat → Int32 → Int32 → Int32 → Int32 → Int32 → Mem → Option Rv
  | 0, _, _, _, _, _, _ => none
  | n + 1, x1, x2, x3, x4, x5, M => if x5 < 8 then ((f_X7_isOpen x3 M).bind fun q2 => if q2.1 = 0 then (f_X7_open_135 k45 x1 x2 x3 x4 q2.2) else (f_X7_isOpen x5 q2.2).bind fun q4 => if q4.1 = 0 then (f_X7_open_125 k45 (f_X7_open_57 k45 n) x1 x2 x3 x5 x4 q4.2) else (mrd q4.2 231 64 x5).bind fun v6 => (mrd q4.2 231 64 x3).bind fun v7 => if v7 < v6 then (f_X7_open_121 k45 (f_X7_open_57 k45 n) x1 x2 x3 x5 x4 q4.2) else (mrd q4.2 231 64 x5).bind fun v9 => (mrd q4.2 231 64 x3).bind fun v10 => if v9 = v10 then (if x5 < x3 then (f_X7_open_121 k45 (f_X7_open_57 k45 n) x1 x2 x3 x5 x4 q4.2) else f_X7_open_125 k45 (f_X7_open_57 k45 n) x1 x2 x3 x5 x4 q4.2) else f_X7_open_125 k45 (f_X7_open_57 k45 n) x1 x2 x3 x5 x4 q4.2) else f_X7_open_135 k45 x1 x2 x3 x4 M
def f_X7_open_45 : Nat → Int32 → Int32 → Int32 → Mem → Option Rv
  | 0, _, _, _, _ => none
  | n + 1, x1, x2, x3, M => if x3 < 8 then (f_X7_open_57 (f_X7_open_45 n) fuelN x1 x2 x3 0 0 M) else some (x2, M)
def f_X7_open_9 : Nat → Int32 → Int32 → Mem → Option Rv
  | 0, _, _, _ => none
  | n + 1, x1, x2, M => if x2 < 8 then ((f_X7_isOpen x2 M).bind fun q2 => if q2.1 = 0 then (f_X7_open_34 (f_X7_open_9 n) x1 x2 q2.2) else (f_X7_sizes x2 q2.2).bind fun q4 => (mst q4.2 231 64 x2 q4.1).bind fun M5 => f_X7_open_34 (f_X7_open_9 n) x1 x2 M5) else f_X7_open_45 fuelN x1 (-5) 0 M
def f_X7_open (p1 : Int32) (M : Mem) : Option Rv := if p1 < 0 then (some ((-2), M)) else f_X7_open_9 fuelN p1 0 M
def f_X7_at_32 (s0 : Int32) (M : Mem) : Option Rv := some (s0, M)
def f_X7_at (p1 : Int32) (M : Mem) : Option Rv := if p1 < 0 then (f_X7_at_32 (-2) M) else (mrd M 219 31088 0).bind fun v2 => if p1 < v2 then ((mrd M 219 31088 (4 + p1)).bind fun v4 => f_X7_at_32 v4 M) else f_X7_at_32 (-5) M
def f_X7_wishesThat_33 (k4 : Int32 → Int32 → Int32 → Mem → Option Rv) (x1 : Int32) (x3 : Int32) (s0 : Int32) (s1 : Int32) (M : Mem) : Option Rv := k4 x1 (s1 + s0) (x3 + 1) M
def f_X7_wishesThat_32 (k4 : Int32 → Int32 → Int32 → Mem → Option Rv) (x1 : Int32) (x3 : Int32) (s0 : Int32) (M : Mem) : Option Rv := f_X7_wishesThat_33 k4 x1 x3 0 s0 M
def f_X7_wishesThat_4 : Nat → Int32 → Int32 → Int32 → Mem → Option Rv
  | 0, _, _, _, _ => none
  | n + 1, x1, x2, x3, M => if x3 < 8 then ((f_X7_isThere x3 M).bind fun q2 => if q2.1 = 0 then (f_X7_wishesThat_32 (f_X7_wishesThat_4 n) x1 x3 x2 q2.2) else (f_X7_verdict x3 q2.2).bind fun q4 => if q4.1 = x1 then (f_X7_wishesThat_33 (f_X7_wishesThat_4 n) x1 x3 1 x2 q4.2) else f_X7_wishesThat_32 (f_X7_wishesThat_4 n) x1 x3 x2 q4.2) else some (x2, M)
def f_X7_wishesThat (p1 : Int32) (M : Mem) : Option Rv := f_X7_wishesThat_4 fuelN p1 0 0 M
def f_X7_count (p1 : Int32) (M : Mem) : Option Rv := if p1 = 0 then ((mrd M 219 31088 0).bind fun v2 => some (v2, M)) else if p1 = 1 then ((mrd M 219 31088 1).bind fun v4 => some (v4, M)) else if p1 = 2 then ((f_X7_thereMany M).bind fun q6 => some (q6.1, q6.2)) else if p1 = 3 then ((mrd M 219 31088 2).bind fun v8 => some (v8, M)) else if p1 = 4 then ((f_X7_wishesThat 2 M).bind fun q10 => some (q10.1, q10.2)) else if p1 = 5 then ((f_X7_wishesThat 0 M).bind fun q12 => some (q12.1, q12.2)) else if p1 = 6 then ((f_X7_wishesThat 1 M).bind fun q14 => some (q14.1, q14.2)) else if p1 = 7 then (some (M 218 24, M)) else if p1 = 8 then (some (M 218 23, M)) else some ((-2), M)
end
