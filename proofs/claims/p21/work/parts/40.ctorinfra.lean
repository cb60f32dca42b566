/-! CONSTRUCTORS: worlds as lists that grow. KL cells slots ws L pc stk: with cells and slots made so far, the machine at pc comes to Q -/
def AOs (U : State) : Prop := va_AO RX4 U ∧ va_AO RX5 U
theorem AOs.moved {u U : State} (hvm : u.vm.Alike U.vm) (h : AOs u) : AOs U := ⟨h.1.moved hvm, h.2.moved hvm⟩
def CxL (l : Launch) (R : Room) (cc : ByteArray) (own : String) (nL : Nat) (G : GL) (A : Nat → Prop) (X : CT) : Prop :=
  X.1.tables.exec = Jvm.exec ∧ X.2.2.2.2.2.2.2.code = cc ∧ X.2.2.2.2.2.2.2.maxLocals = nL ∧ X.2.2.1.vm.findClass own = some X.2.2.2.1.cls ∧ (∀ w ∈ BIG, w.before X.2.2.2.2.1 X.2.2.1 = true) ∧ Tb G X.2.2.1 X.2.2.1.heap ∧ (∀ q, X.2.2.1.heap.size ≤ q → A q) ∧ (∀ q, A q → G.2.2.1 q) ∧ X.2.2.2.2.2.2.1.locks = false ∧ AOs X.2.2.1
def KL (l : Launch) (R : Room) (nL : Nat) (G : GL) (A : Nat → Prop) (Q : State → Prop) (X : CT) (cells slots : Nat) (ws : va_W) (L : List (Option Value)) (pc : Nat) (stk : List Value) : Prop :=
  ∀ (H : Heap) (locs : List Loc) (ls : Array Slot), va_P G.1 vwCl ws H → va_D A ws → va_S A X.2.2.1.heap H locs → lvh ls nL L → W X.1 l X.2.1 R X.2.2.1 X.2.2.2.1 X.2.2.2.2.1 X.2.2.2.2.2.1 X.2.2.2.2.2.2.1 X.2.2.2.2.2.2.2 H locs cells slots Q (F0 X.2.2.2.1 pc ls stk)
theorem K_same {U : State} {cA cB : ClassId} {ty : FieldType} (h1 : va_RA U cA ty) (h2 : va_RA U cB ty) : cA = cB := by
  cases ty with
  | object C =>
    obtain ⟨_, _, _, _, _, e1⟩ := h1
    obtain ⟨_, _, _, _, _, e2⟩ := h2
    exact Option.some.inj (e1.symm.trans e2)
  | _ => exact Option.some.inj (Eq.symm (show U.vm.findClass _ = some cA from h1) |>.trans (show U.vm.findClass _ = some cB from h2))
theorem va_P.left {D : va_G} {cl : List vw_C} {a b : va_W} {H : Heap} (h : va_P D cl (a ++ b) H) : va_P D cl a H := fun k q hk => h k q (by rw [List.getElem?_append_left (List.getElem?_eq_some_iff.mp hk).1]; exact hk)
theorem va_P.right {D : va_G} {cl : List vw_C} {a b : va_W} {H : Heap} (h : va_P D cl (a ++ b) H) : va_P D cl b H := fun k q hk => h (a.length + k) q (by rw [List.getElem?_append_right (by omega)]; rw [show a.length + k - a.length = k by omega]; exact hk)
theorem va_D.left {A : Nat → Prop} {a b : va_W} (h : va_D A (a ++ b)) : va_D A a := by
  have up : ∀ {k : Nat} {q : Nat × va_E}, a[k]? = some q → (a ++ b)[k]? = some q := fun hk => by rw [List.getElem?_append_left (List.getElem?_eq_some_iff.mp hk).1]; exact hk
  exact ⟨fun i j p q hi hj e => h.1 i j p q (up hi) (up hj) e, fun k q hk => h.2 k q (up hk)⟩
theorem va_D.right {A : Nat → Prop} {a b : va_W} (h : va_D A (a ++ b)) : va_D A b := by
  have up : ∀ {k : Nat} {q : Nat × va_E}, b[k]? = some q → (a ++ b)[a.length + k]? = some q := fun hk => by rw [List.getElem?_append_right (by omega), Nat.add_sub_cancel_left]; exact hk
  exact ⟨fun i j p q hi hj e => by have := h.1 _ _ p q (up hi) (up hj) e; omega, fun k q hk => h.2 _ q (up hk)⟩
theorem va_D.cross {A : Nat → Prop} {a b : va_W} (h : va_D A (a ++ b)) {i j : Nat} {p q : Nat × va_E} (hi : a[i]? = some p) (hj : b[j]? = some q) : p.1 ≠ q.1 := by
  intro e
  have hl := (List.getElem?_eq_some_iff.mp hi).1
  have := h.1 i (a.length + j) p q (by rw [List.getElem?_append_left hl]; exact hi) (by rw [List.getElem?_append_right (by omega), Nat.add_sub_cancel_left]; exact hj) e
  omega
theorem join2 {A : Nat → Prop} {D : va_G} {cl : List vw_C} {wr wc w1 : va_W} {H H1 : Heap} (hP : va_P D cl (wr ++ wc) H) (hD : va_D A (wr ++ wc)) (hk : ∀ q : Nat, q < H.size → ¬ va_A wc H.size q → H1[q]? = H[q]?) (hF : ∀ q, va_A wc H.size q → A q) (hP1 : va_P D cl w1 H1) (hD1 : va_D (va_A wc H.size) w1) : va_P D cl (wr ++ w1) H1 ∧ va_D A (wr ++ w1) := by
  have apart : ∀ (k : Nat) (q : Nat × va_E), wr[k]? = some q → q.1 < H.size ∧ ¬ va_A wc H.size q.1 := by
    intro k q hq
    have hl := (hP.left k q hq).lt
    refine ⟨hl, fun h => ?_⟩
    rcases h with ⟨k2, e, h⟩ | h
    · exact hD.cross hq h rfl
    · omega
  refine ⟨va_P.app (fun k q hq => (hP.left k q hq).kept (hk q.1 (apart k q hq).1 (apart k q hq).2)) hP1, va_D.app hD.left (hD1.weaken (fun k q _ h => hF q.1 h)) (fun i j x y hx hy hxy => ?_)⟩
  exact (apart i x hx).2 (by rw [hxy]; exact hD1.2 j y hy)
section KLROWS
variable {l : Launch} {R : Room} {nL : Nat} {G : GL} {A : Nat → Prop} {Q : State → Prop} {X : CT} {cells slots : Nat} {ws : va_W} {L L' : List (Option Value)} {pc : Nat} {stk : List Value} {cc : ByteArray} {own : String}
theorem KL.step {pc' : Nat} {stk' : List Value} (h : ∀ (H : Heap) (locs : List Loc) (ls : Array Slot), va_P G.1 vwCl ws H → va_D A ws → va_S A X.2.2.1.heap H locs → lvh ls nL L → W X.1 l X.2.1 R X.2.2.1 X.2.2.2.1 X.2.2.2.2.1 X.2.2.2.2.2.1 X.2.2.2.2.2.2.1 X.2.2.2.2.2.2.2 H locs cells slots Q (F0 X.2.2.2.1 pc' ls stk') → W X.1 l X.2.1 R X.2.2.1 X.2.2.2.1 X.2.2.2.2.1 X.2.2.2.2.2.1 X.2.2.2.2.2.2.1 X.2.2.2.2.2.2.2 H locs cells slots Q (F0 X.2.2.2.1 pc ls stk)) (kk : KL l R nL G A Q X cells slots ws L pc' stk') : KL l R nL G A Q X cells slots ws L pc stk := fun H locs ls hP hD hS hl => h H locs ls hP hD hS hl (kk H locs ls hP hD hS hl)
theorem KL.world {ws' : va_W} (e : ws = ws') (kk : KL l R nL G A Q X cells slots ws' L pc stk) : KL l R nL G A Q X cells slots ws L pc stk := e ▸ kk
theorem l_iconst (hX : CxL l R cc own nL G A X) {n : Int} {v : Int32} (hv : Int32.ofInt n = v) (hdg : decode cc pc = .ok (.iconst n, 1)) (kk : KL l R nL G A Q X cells slots ws L (pc + 1) (.int v :: stk)) : KL l R nL G A Q X cells slots ws L pc stk := KL.step (fun H locs ls hP hD hS hl h => lv_iconst hX.1 hX.2.1 hdg hv h) kk
theorem l_bipush (hX : CxL l R cc own nL G A X) {n : Int} {v : Int32} (hv : (Int8.ofInt n).toInt32 = v) (hdg : decode cc pc = .ok (.bipush n, 2)) (kk : KL l R nL G A Q X cells slots ws L (pc + 2) (.int v :: stk)) : KL l R nL G A Q X cells slots ws L pc stk := KL.step (fun H locs ls hP hD hS hl h => lv_bipush hX.1 hX.2.1 hdg hv h) kk
theorem l_sipush (hX : CxL l R cc own nL G A X) {n : Int} {v : Int32} (hv : (Int16.ofInt n).toInt32 = v) (hdg : decode cc pc = .ok (.sipush n, 3)) (kk : KL l R nL G A Q X cells slots ws L (pc + 3) (.int v :: stk)) : KL l R nL G A Q X cells slots ws L pc stk := KL.step (fun H locs ls hP hD hS hl h => lv_sipush hX.1 hX.2.1 hdg hv h) kk
theorem l_ldc (hX : CxL l R cc own nL G A X) {v : Int32} {index : Nat} (hw : Cond.constant own index v ∈ BIG) (hdg : decode cc pc = .ok (.ldc index, 2)) (kk : KL l R nL G A Q X cells slots ws L (pc + 2) (.int v :: stk)) : KL l R nL G A Q X cells slots ws L pc stk := KL.step (fun H locs ls hP hD hS hl h => lv_ldc hX.1 hX.2.1 hX.2.2.2.1 (hX.2.2.2.2.1 _ hw) hdg h) kk
theorem l_iload_n (hX : CxL l R cc own nL G A X) {k : Fin 4} {i : Nat} {x : Int32} (hi : (k : Nat) = i) (hL : L[i]? = some (some (.int x))) (hdg : decode cc pc = .ok (.iload_n k, 1)) (kk : KL l R nL G A Q X cells slots ws L (pc + 1) (.int x :: stk)) : KL l R nL G A Q X cells slots ws L pc stk := KL.step (fun H locs ls hP hD hS hl h => lv_iload_n hX.1 hX.2.1 hdg hi (hl.2.2 _ _ hL).2 h) kk
theorem l_aload_n (hX : CxL l R cc own nL G A X) {k : Fin 4} {i : Nat} {x : Nat} (hi : (k : Nat) = i) (hL : L[i]? = some (some (.ref x))) (hdg : decode cc pc = .ok (.aload_n k, 1)) (kk : KL l R nL G A Q X cells slots ws L (pc + 1) (.ref x :: stk)) : KL l R nL G A Q X cells slots ws L pc stk := KL.step (fun H locs ls hP hD hS hl h => lv_aload_n hX.1 hX.2.1 hdg hi (hl.2.2 _ _ hL).2 h) kk
theorem l_istore_n (hX : CxL l R cc own nL G A X) {k : Fin 4} {i : Nat} {x : Int32} (hi : (k : Nat) = i) (hn : i < nL) (hL : L.set i (some (.int x)) = L') (hdg : decode cc pc = .ok (.istore_n k, 1)) (kk : KL l R nL G A Q X cells slots ws L' (pc + 1) stk) : KL l R nL G A Q X cells slots ws L pc (.int x :: stk) := fun H locs ls hP hD hS hl => lv_istore_n (lv := lprs L) hX.1 hX.2.1 hdg hi hl.has hn rfl (fun ls' hl' => kk H locs ls' hP hD hS (hl.set rfl hL hl'))
theorem l_astore_n (hX : CxL l R cc own nL G A X) {k : Fin 4} {i : Nat} {x : Nat} (hi : (k : Nat) = i) (hn : i < nL) (hL : L.set i (some (.ref x)) = L') (hdg : decode cc pc = .ok (.astore_n k, 1)) (kk : KL l R nL G A Q X cells slots ws L' (pc + 1) stk) : KL l R nL G A Q X cells slots ws L pc (.ref x :: stk) := fun H locs ls hP hD hS hl => lv_astore_n (lv := lprs L) hX.1 hX.2.1 hdg hi hl.has hn rfl (fun ls' hl' => kk H locs ls' hP hD hS (hl.set rfl hL hl'))
theorem l_iinc (hX : CxL l R cc own nL G A X) {i : Nat} {n : Int} {x v : Int32} (hx : L[i]? = some (some (.int x))) (hv : x + Int32.ofInt n = v) (hn : i < nL) (hL : L.set i (some (.int v)) = L') (hdg : decode cc pc = .ok (.iinc i n, 3)) (kk : KL l R nL G A Q X cells slots ws L' (pc + 3) stk) : KL l R nL G A Q X cells slots ws L pc stk := fun H locs ls hP hD hS hl => by
  obtain ⟨k, hk⟩ := List.getElem?_of_mem (mem_lprs.mpr hx)
  exact lv_iinc (lv := lprs L) hX.1 hX.2.1 hdg hl.has hk hv hn rfl (fun ls' hl' => kk H locs ls' hP hD hS (hl.set rfl hL hl'))
theorem l_dup (hX : CxL l R cc own nL G A X) {va : Value} (hva : va.category = 1) (hdg : decode cc pc = .ok (.dup, 1)) (kk : KL l R nL G A Q X cells slots ws L (pc + 1) (va :: va :: stk)) : KL l R nL G A Q X cells slots ws L pc (va :: stk) := KL.step (fun H locs ls hP hD hS hl h => lv_dup hX.1 hX.2.1 hdg hva h) kk
theorem l_goto (hX : CxL l R cc own nL G A X) {off : Int} {tgt : Nat} (hdg : decode cc pc = .ok (.goto off, 3)) (ht : (pc : Int) + off = (tgt : Int)) (kk : KL l R nL G A Q X cells slots ws L tgt stk) : KL l R nL G A Q X cells slots ws L pc stk := KL.step (fun H locs ls hP hD hS hl h => lv_goto hX.1 hX.2.1 hdg ht h) kk
theorem l_isub (hX : CxL l R cc own nL G A X) {x y v : Int32} (hv : x - y = v) (hdg : decode cc pc = .ok (.isub, 1)) (kk : KL l R nL G A Q X cells slots ws L (pc + 1) (.int v :: stk)) : KL l R nL G A Q X cells slots ws L pc (.int y :: .int x :: stk) := by
  subst hv
  exact KL.step (fun H locs ls hP hD hS hl h => lv_isub hX.1 hX.2.1 hdg h) kk
theorem l_irem (hX : CxL l R cc own nL G A X) {x y v : Int32} (hne : ¬ y = 0) (hv : x - x / y * y = v) (hdg : decode cc pc = .ok (.irem, 1)) (kk : KL l R nL G A Q X cells slots ws L (pc + 1) (.int v :: stk)) : KL l R nL G A Q X cells slots ws L pc (.int y :: .int x :: stk) := by
  subst hv
  exact KL.step (fun H locs ls hP hD hS hl h => lv_irem hX.1 hX.2.1 hdg hne h) kk
theorem l_ishl (hX : CxL l R cc own nL G A X) {x y v : Int32} (hv : x <<< (y &&& 31) = v) (hdg : decode cc pc = .ok (.ishl, 1)) (kk : KL l R nL G A Q X cells slots ws L (pc + 1) (.int v :: stk)) : KL l R nL G A Q X cells slots ws L pc (.int y :: .int x :: stk) := by
  subst hv
  exact KL.step (fun H locs ls hP hD hS hl h => lv_ishl hX.1 hX.2.1 hdg h) kk
/-! branches whose answer is known: t taken, f not -/
theorem l_ge_t (hX : CxL l R cc own nL G A X) {x y : Int32} {off : Int} {tgt : Nat} (hc : y ≤ x) (hdg : decode cc pc = .ok (.if_icmp .ge off, 3)) (ht : (pc : Int) + off = (tgt : Int)) (kk : KL l R nL G A Q X cells slots ws L tgt stk) : KL l R nL G A Q X cells slots ws L pc (.int y :: .int x :: stk) := KL.step (fun H locs ls hP hD hS hl h => lv_icmp_ge hX.1 hX.2.1 hdg ht (fun _ => h) (fun c => absurd hc c)) kk
theorem l_ge_f (hX : CxL l R cc own nL G A X) {x y : Int32} {off : Int} {tgt : Nat} (hc : ¬ y ≤ x) (hdg : decode cc pc = .ok (.if_icmp .ge off, 3)) (ht : (pc : Int) + off = (tgt : Int)) (kk : KL l R nL G A Q X cells slots ws L (pc + 3) stk) : KL l R nL G A Q X cells slots ws L pc (.int y :: .int x :: stk) := KL.step (fun H locs ls hP hD hS hl h => lv_icmp_ge hX.1 hX.2.1 hdg ht (fun c => absurd c hc) (fun _ => h)) kk
theorem l_lt_t (hX : CxL l R cc own nL G A X) {x y : Int32} {off : Int} {tgt : Nat} (hc : x < y) (hdg : decode cc pc = .ok (.if_icmp .lt off, 3)) (ht : (pc : Int) + off = (tgt : Int)) (kk : KL l R nL G A Q X cells slots ws L tgt stk) : KL l R nL G A Q X cells slots ws L pc (.int y :: .int x :: stk) := KL.step (fun H locs ls hP hD hS hl h => lv_icmp_lt hX.1 hX.2.1 hdg ht (fun _ => h) (fun c => absurd hc c)) kk
theorem l_lt_f (hX : CxL l R cc own nL G A X) {x y : Int32} {off : Int} {tgt : Nat} (hc : ¬ x < y) (hdg : decode cc pc = .ok (.if_icmp .lt off, 3)) (ht : (pc : Int) + off = (tgt : Int)) (kk : KL l R nL G A Q X cells slots ws L (pc + 3) stk) : KL l R nL G A Q X cells slots ws L pc (.int y :: .int x :: stk) := KL.step (fun H locs ls hP hD hS hl h => lv_icmp_lt hX.1 hX.2.1 hdg ht (fun c => absurd c hc) (fun _ => h)) kk
theorem l_eq_t (hX : CxL l R cc own nL G A X) {x y : Int32} {off : Int} {tgt : Nat} (hc : x = y) (hdg : decode cc pc = .ok (.if_icmp .eq off, 3)) (ht : (pc : Int) + off = (tgt : Int)) (kk : KL l R nL G A Q X cells slots ws L tgt stk) : KL l R nL G A Q X cells slots ws L pc (.int y :: .int x :: stk) := KL.step (fun H locs ls hP hD hS hl h => lv_icmp_eq hX.1 hX.2.1 hdg ht (fun _ => h) (fun c => absurd hc c)) kk
theorem l_eq_f (hX : CxL l R cc own nL G A X) {x y : Int32} {off : Int} {tgt : Nat} (hc : ¬ x = y) (hdg : decode cc pc = .ok (.if_icmp .eq off, 3)) (ht : (pc : Int) + off = (tgt : Int)) (kk : KL l R nL G A Q X cells slots ws L (pc + 3) stk) : KL l R nL G A Q X cells slots ws L pc (.int y :: .int x :: stk) := KL.step (fun H locs ls hP hD hS hl h => lv_icmp_eq hX.1 hX.2.1 hdg ht (fun c => absurd c hc) (fun _ => h)) kk
/-! making -/
theorem l_objInit (hX : CxL l R cc own nL G A X) {a index : Nat} (hw : Cond.methodLink own index Lib.objectInit ∈ BIG) (hi : Cond.instanceMethod Lib.objectInit ∈ BIG) (hc : Cond.code Lib.objectInit ⟨#[0xb1]⟩ 1 none ∈ BIG) (hdg : decode cc pc = .ok (.invokespecial index, 3)) (hR1 : 1 ≤ R.frames) (hR2 : 0 + (stk.map fun v => v.category).sum + 12 ≤ R.locals) (kk : KL l R nL G A Q X cells slots ws L (pc + 3) stk) : KL l R nL G A Q X cells slots ws L pc (.ref a :: stk) :=
  KL.step (fun H locs ls hP hD hS hl h => W.objInit hX.1 hX.2.1 hX.2.2.2.1 (hX.2.2.2.2.1 _ hw) (hX.2.2.2.2.1 _ hi) (hX.2.2.2.2.1 _ hc) rfl (hl.1.trans hX.2.2.1.symm) rfl hdg hR1 hR2 h) kk
theorem l_new (hX : CxL l R cc own nL G A X) {C : String} {T : u_T} {N ci index : Nat} {fs : List Value} (ty : Nat → FieldType) (hty : ∀ k, k < N → parseFieldDescriptor (T k).2.2.1 = some (ty k)) (hin : ∀ w ∈ u_ws C T N, w ∈ BIG) (hcl : Cond.classLink own index C ∈ BIG) (hinst : Cond.instantiable C N ∈ BIG) (hini : Cond.initialized C ∈ BIG) (hc : vwCl[ci]? = some (C, T, N)) (hfs : ∀ j, j < N → defaultValue (ty j) = vp_V fs j) (hcells : cells + 1 ≤ R.cells) (hslots : slots + N ≤ R.slots) (hdg : decode cc pc = .ok (.new index, 3))
    (kk : ∀ q : Nat, KL l R nL G A Q X (cells + 1) (slots + N) (ws ++ [(q, .inr (ci, fs))]) L (pc + 3) (.ref q :: stk)) : KL l R nL G A Q X cells slots ws L pc stk := fun H locs ls hP hD hS hl =>
  va_new hX.1 hX.2.1 hX.2.2.2.2.1 hin ty hty hX.2.2.2.1 (hX.2.2.2.2.1 _ hcl) (hX.2.2.2.2.1 _ hinst) (hX.2.2.2.2.1 _ hini) hX.2.2.2.2.2.1.1 hP hD hS hX.2.2.2.2.2.2.1 hc hfs hcells hslots hdg (fun q H1 hP1 hD1 hS1 => kk q H1 locs ls hP1 hD1 hS1 hl)
theorem l_newa (hX : CxL l R cc own nL G A X) {atype : ArrayType} {ty : FieldType} {t N : Nat} {n : Int32} (hw : Cond.arrayClass ty ∈ BIG) (hty : newarray.typeOf atype = ty) (ht : (tyl G.2.1)[t]? = some (G.2.1 t, ty)) (hd : defaultValue ty = .int 0) (hn : ¬ n < 0) (hN : n.toNatClampNeg = N) (hbytes : N * componentBytes ty ≤ 536870912) (hcells : cells + 1 ≤ R.cells) (hslots : slots + N ≤ R.slots) (hdg : decode cc pc = .ok (.newarray atype, 2))
    (kk : ∀ q : Nat, KL l R nL G A Q X (cells + 1) (slots + N) (ws ++ [(q, .inl (G.2.1 t, N, .inl (fun _ => 0)))]) L (pc + 2) (.ref q :: stk)) : KL l R nL G A Q X cells slots ws L pc (.int n :: stk) := fun H locs ls hP hD hS hl => by
  refine va_newa (a0 := (N, .inl (fun _ => 0))) (ty := ty) hX.1 hX.2.1 (by rw [hty]; exact hX.2.2.2.2.1 _ hw) hty hX.2.2.2.2.2.1.1 hP hD hS hX.2.2.2.2.2.2.1 (fun cA => by rw [vp_cell_i, hd]) hn hN hbytes hcells hslots hdg (fun q cA H1 hK1 hP1 hD1 hS1 => ?_)
  have e1 := (hK1.2 (tyl G.2.1).length (cA, ty) (by rw [List.getElem?_append_right (Nat.le_refl _), Nat.sub_self]; rfl)).2
  have e2 := (hX.2.2.2.2.2.1.1.2 t (G.2.1 t, ty) ht).2
  have e3 : cA = G.2.1 t := K_same e1 e2
  subst e3
  exact kk q H1 locs ls hP1 hD1 hS1 hl
theorem l_newq (hX : CxL l R cc own nL G A X) {C : String} {index t N : Nat} {n : Int32} (hcl : Cond.classLink own index C ∈ BIG) (hw : AOs X.2.2.1 → va_AO C X.2.2.1) (ht : (tyl G.2.1)[t]? = some (G.2.1 t, .object C)) (hn : ¬ n < 0) (hN : n.toNatClampNeg = N) (hbytes : N * 4 ≤ 536870912) (hcells : cells + 1 ≤ R.cells) (hslots : slots + N ≤ R.slots) (hdg : decode cc pc = .ok (.anewarray index, 3))
    (kk : ∀ q : Nat, KL l R nL G A Q X (cells + 1) (slots + N) (ws ++ [(q, .inl (G.2.1 t, N, .inr (.inr (.inr (.inr (fun _ => none))))))]) L (pc + 3) (.ref q :: stk)) : KL l R nL G A Q X cells slots ws L pc (.int n :: stk) := fun H locs ls hP hD hS hl => by
  refine va_newq hX.1 hX.2.1 hX.2.2.2.1 (hX.2.2.2.2.1 _ hcl) (hw hX.2.2.2.2.2.2.2.2.2) hX.2.2.2.2.2.1.1 hP hD hS hX.2.2.2.2.2.2.1 hn hN hbytes hcells hslots hdg (fun q cA H1 hK1 hP1 hD1 hS1 => ?_)
  have e1 := (hK1.2 (tyl G.2.1).length (cA, .object C) (by rw [List.getElem?_append_right (Nat.le_refl _), Nat.sub_self]; rfl)).2
  have e2 := (hX.2.2.2.2.2.1.1.2 t (G.2.1 t, .object C) ht).2
  have e3 : cA = G.2.1 t := K_same e1 e2
  subst e3
  exact kk q H1 locs ls hP1 hD1 hS1 hl
/-! fields and rows -/
def FQk (own : String) (index ci k : Nat) (ty : FieldType) (fin : Bool) : Prop := ∃ (C : String) (T : u_T) (N : Nat) (ty0 : Nat → FieldType), vwCl[ci]? = some (C, T, N) ∧ (∀ w ∈ u_ws C T N, w ∈ BIG) ∧ k < N ∧ (∀ j, j < N → parseFieldDescriptor (T j).2.2.1 = some (ty0 j)) ∧ (∀ a, a < N → ∀ b, b < N → a ≠ b → (T a).2.1 ≠ (T b).2.1) ∧ (T k).2.2.2 = fin ∧ (T k).1 = own ∧ parseFieldDescriptor (T k).2.2.1 = some ty ∧ Cond.fieldLink own index (T k).1 (T k).2.1 (T k).2.2.1 ∈ BIG
theorem l_put (hX : CxL l R cc own nL G A X) {ws' : va_W} {a ci k index : Nat} {fs : List Value} {v : Value} {ty : FieldType} {fin : Bool} (q0 : Nat) (he : ws[q0]? = some (a, .inr (ci, fs))) (hF : FQk own index ci k ty fin) (hinit : fin = true → X.2.2.2.2.2.2.1.name = "<init>") (hn : narrow ty v = v) (hfit : fits ty v = true) (hlen : k < fs.length) (hws : ws.set q0 (a, .inr (ci, fs.set k v)) = ws') (hdg : decode cc pc = .ok (.putfield index, 3)) (kk : KL l R nL G A Q X cells slots ws' L (pc + 3) stk) : KL l R nL G A Q X cells slots ws L pc (v :: .ref a :: stk) := by
  obtain ⟨C, T, N, ty0, hc, hin, hk, hty, hnm, hfin, hdecl, hd, hw⟩ := hF
  intro H locs ls hP hD hS hl
  subst hws
  cases fin with
  | true => exact va_putF hX.1 hX.2.1 hX.2.2.2.2.1 hin ty0 hty hnm hX.2.2.2.1 hX.2.2.2.2.2.1.1 hP hD hS q0 he hc k hk (hX.2.2.2.2.1 _ hw) (fun _ h9 => h9) hfin (hinit rfl) hdecl hd hn hfit hlen hdg (fun H1 locs1 hP1 hD1 hS1 => kk H1 locs1 ls hP1 hD1 hS1 hl)
  | false => exact va_put hX.1 hX.2.1 hX.2.2.2.2.1 hin ty0 hty hnm hX.2.2.2.1 hX.2.2.2.2.2.1.1 hP hD hS q0 he hc k hk (hX.2.2.2.2.1 _ hw) (fun _ h9 => h9) hfin hd hn hfit hlen hdg (fun H1 locs1 hP1 hD1 hS1 => kk H1 locs1 ls hP1 hD1 hS1 hl)
theorem l_get (hX : CxL l R cc own nL G A X) {a ci k index : Nat} {fs : List Value} {v : Value} {ty : FieldType} {fin : Bool} (q0 : Nat) (he : ws[q0]? = some (a, .inr (ci, fs))) (hF : FQk own index ci k ty fin) (hv : fs[k]? = some v) (hdg : decode cc pc = .ok (.getfield index, 3)) (kk : KL l R nL G A Q X cells slots ws L (pc + 3) (v :: stk)) : KL l R nL G A Q X cells slots ws L pc (.ref a :: stk) := by
  obtain ⟨C, T, N, ty0, hc, hin, hk, hty, hnm, hfin, hdecl, hd, hw⟩ := hF
  exact KL.step (fun H locs ls hP hD hS hl h => va_get hX.1 hX.2.1 hX.2.2.2.2.1 hin hX.2.2.2.1 hX.2.2.2.2.2.1.1 hP q0 he hc k hk (hX.2.2.2.2.1 _ hw) (fun _ h9 => h9) hv hdg h) kk
theorem l_iast (hX : CxL l R cc own nL G A X) {ws' : va_W} {a n : Nat} {f f' : Nat → Int32} {i x : Int32} (q0 : Nat) (he : ws[q0]? = some (a, .inl (G.2.1 0, n, .inl f))) (hin : vp_in i n) (hf : upd f i.toNatClampNeg x = f') (hws : ws.set q0 (a, .inl (G.2.1 0, n, .inl f')) = ws') (hdg : decode cc pc = .ok (.iastore, 1)) (kk : KL l R nL G A Q X cells slots ws' L (pc + 1) stk) : KL l R nL G A Q X cells slots ws L pc (.int x :: .int i :: .ref a :: stk) := by
  subst hws hf
  exact fun H locs ls hP hD hS hl => va_iast hX.1 hX.2.1 hX.2.2.2.2.2.1.1 hP hD hS q0 0 he rfl hin hdg (fun H1 locs1 hP1 hD1 hS1 => kk H1 locs1 ls hP1 hD1 hS1 hl)
theorem l_zast (hX : CxL l R cc own nL G A X) {ws' : va_W} {a n : Nat} {f f' : Nat → Int32} {i x : Int32} (q0 : Nat) (he : ws[q0]? = some (a, .inl (G.2.1 1, n, .inl f))) (hin : vp_in i n) (hf : upd f i.toNatClampNeg (nz x) = f') (hws : ws.set q0 (a, .inl (G.2.1 1, n, .inl f')) = ws') (hdg : decode cc pc = .ok (.bastore, 1)) (kk : KL l R nL G A Q X cells slots ws' L (pc + 1) stk) : KL l R nL G A Q X cells slots ws L pc (.int x :: .int i :: .ref a :: stk) := by
  subst hws hf
  exact fun H locs ls hP hD hS hl => va_zast hX.1 hX.2.1 hX.2.2.2.2.2.1.1 hP hD hS q0 1 he rfl hin hdg (fun H1 locs1 hP1 hD1 hS1 => kk H1 locs1 ls hP1 hD1 hS1 hl)
theorem l_cast (hX : CxL l R cc own nL G A X) {ws' : va_W} {a n : Nat} {f f' : Nat → Int32} {i x : Int32} (q0 : Nat) (he : ws[q0]? = some (a, .inl (G.2.1 2, n, .inl f))) (hin : vp_in i n) (hf : upd f i.toNatClampNeg (nc x) = f') (hws : ws.set q0 (a, .inl (G.2.1 2, n, .inl f')) = ws') (hdg : decode cc pc = .ok (.castore, 1)) (kk : KL l R nL G A Q X cells slots ws' L (pc + 1) stk) : KL l R nL G A Q X cells slots ws L pc (.int x :: .int i :: .ref a :: stk) := by
  subst hws hf
  exact fun H locs ls hP hD hS hl => va_cast hX.1 hX.2.1 hX.2.2.2.2.2.1.1 hP hD hS q0 2 he rfl hin hdg (fun H1 locs1 hP1 hD1 hS1 => kk H1 locs1 ls hP1 hD1 hS1 hl)
theorem l_astq (hX : CxL l R cc own nL G A X) {ws' : va_W} {a v n t ci : Nat} {r : vw_C} {vs : List Value} {f f' : Nat → Option Nat} {i : Int32} (q0 qk : Nat) (ha : ws[q0]? = some (a, .inl (G.2.1 t, n, .inr (.inr (.inr (.inr f)))))) (ht : (tyl G.2.1)[t]? = some (G.2.1 t, .object r.1)) (hv : ws[qk]? = some (v, .inr (ci, vs))) (hc : vwCl[ci]? = some r) (hin : vp_in i n) (hf : va_up f i.toNatClampNeg (some v) = f') (hws : ws.set q0 (a, .inl (G.2.1 t, n, .inr (.inr (.inr (.inr f'))))) = ws') (hdg : decode cc pc = .ok (.aastore, 1)) (kk : KL l R nL G A Q X cells slots ws' L (pc + 1) stk) : KL l R nL G A Q X cells slots ws L pc (.ref v :: .int i :: .ref a :: stk) := by
  subst hws hf
  exact fun H locs ls hP hD hS hl => va_astq hX.1 hX.2.1 hX.2.2.2.2.2.1.1 hP hD hS q0 t qk ci ha ht hv hc hin hdg (fun H1 locs1 hP1 hD1 hS1 => kk H1 locs1 ls hP1 hD1 hS1 hl)
theorem l_getll (hX : CxL l R cc own nL G A X) {index : Nat} (hF : SLk own index "LEAF_LETTERS" "[C") (hdg : decode cc pc = .ok (.getstatic index, 3)) (kk : KL l R nL G A Q X cells slots ws L (pc + 3) (.ref G.2.2.2.1 :: stk)) : KL l R nL G A Q X cells slots ws L pc stk := by
  refine KL.step (fun H locs ls hP hD hS hl h => ?_) kk
  have hZ := hX.2.2.2.2.2.1.2.2.1.1.narrow hX.2.2.2.2.2.2.2.1
  rcases hF with hw | ⟨host, hw⟩
  · exact va_gets hX.1 hX.2.1 hZ hS hX.2.2.2.1 (hX.2.2.2.2.1 _ hw) (fun _ h9 => h9) hdg h
  · exact va_getsN hX.1 hX.2.1 hZ hS hX.2.2.2.1 (va_Nw.use rfl (hX.2.2.2.2.2.1.2.1.1 _ hw)) (fun _ h9 => h9) hdg h
theorem l_caldll (hX : CxL l R cc own nL G A X) {i v : Int32} (hin : vp_in i 16) (hv : llt i.toNatClampNeg = v) (hdg : decode cc pc = .ok (.caload, 1)) (kk : KL l R nL G A Q X cells slots ws L (pc + 1) (.int v :: stk)) : KL l R nL G A Q X cells slots ws L pc (.int i :: .ref G.2.2.2.1 :: stk) := by
  refine KL.step (fun H locs ls hP hD hS hl h => ?_) kk
  exact va_tc hX.1 hX.2.1 (hX.2.2.2.2.2.1.2.2.1.2.1.narrow hX.2.2.2.2.2.2.2.1) hS hin (by rw [hv]) hdg h
/-! calls of constructors, and the end of one -/
def PcL (G : GL) (vs : List Value) (sz : Nat) (wc : va_W) : Array Value → State → Prop := va_Pc vs (fun U => U.heap.size = sz ∧ va_P G.1 vwCl wc U.heap ∧ va_D (va_A wc sz) wc ∧ Tb G U U.heap ∧ (∀ q, va_A wc sz q → G.2.2.1 q) ∧ AOs U)
def CtL (l : Launch) (G : GL) (y : MethodName) (cy : ByteArray) (my : Nat) (fr lo mc ms : Nat) (vs : List Value) (wc : va_W) (Po : va_W → Prop) : Prop :=
  ∀ sz : Nat, Met l y (Cond.code y cy my none :: BIG) { frames := fr, cells := mc, slots := ms, locals := lo } (PcL G vs sz wc) (va_Qv Po (fun w1 t => va_P G.1 vwCl w1 t.heap ∧ va_D (va_A wc sz) w1) (va_A wc sz)) mc ms (va_A wc sz)
theorem PcL.blind {vs : List Value} {sz : Nat} {wc : va_W} : FrameBlind (PcL G vs sz wc) := by
  intro a U g mk q
  obtain ⟨q0, q1, qP, qD, ⟨qK, qN, qS⟩, qA, qO⟩ := q
  exact ⟨q0, q1, qP, qD, ⟨va_K.moved (u := U) (U := U.calling g mk a) (Vm.Alike.refl U.vm) qK, Nst.same (u := U) (U := U.calling g mk a) rfl qN, Stt.moved (u := U) (U := U.calling g mk a) (Vm.Alike.refl U.vm) qS⟩, qA, AOs.moved (u := U) (U := U.calling g mk a) (Vm.Alike.refl U.vm) qO⟩
def MLi (own : String) (index : Nat) (y : MethodName) (cy : ByteArray) (my : Nat) (n : Nat) : Prop := MLk own index y cy my none n ∧ Cond.instanceMethod y ∈ BIG ∧ y.name = "<init>"
theorem l_call (hX : CxL l R cc own nL G A X) {y : MethodName} {cy : ByteArray} {my fr lo mc ms n index b : Nat} {vs stk0 : List Value} {wr wc : va_W} {Po : va_W → Prop} (hM : CtL l G y cy my fr lo mc ms (.ref b :: vs) wc Po) (hw : MLi own index y cy my n) (hws : ws = wr ++ wc) (hn : vs.length = n) (hst : stk0 = vs.reverse ++ .ref b :: stk) (hcat : (stk.map fun v => v.category).sum ≤ 8) (hR : fr + 1 ≤ R.frames ∧ 8 + (my + 11) + lo ≤ R.locals) (hRc : cells + mc ≤ R.cells ∧ slots + ms ≤ R.slots) (hdg : decode cc pc = .ok (.invokespecial index, 3)) (kk : ∀ w1, Po w1 → KL l R nL G A Q X (cells + mc) (slots + ms) (wr ++ w1) L (pc + 3) stk) : KL l R nL G A Q X cells slots ws L pc stk0 := by
  subst hws
  intro H locs ls hP hD hS hl
  have hF : ∀ q, va_A wc H.size q → A q := by
    intro q h
    rcases h with ⟨k, e, h⟩ | h
    · exact hD.right.2 k (q, e) h
    · exact hX.2.2.2.2.2.2.1 q (Nat.le_trans hS.1 h)
  have hpre : ∀ U : State, U.heap = H → X.2.2.1.WarmedH U.vm → PcL G (.ref b :: vs) H.size wc (Value.ref b :: vs).toArray U := by
    intro U hU hW
    obtain ⟨hK, hN, hZ⟩ := hX.2.2.2.2.2.1
    refine ⟨rfl, by rw [hU], by rw [hU]; exact hP.right, hD.right.self, ⟨va_K.moved hW.alike hK, hN.warm hW, ?_⟩, fun q hq => hX.2.2.2.2.2.2.2.1 q (hF q hq), AOs.moved hW.alike hX.2.2.2.2.2.2.2.2.2⟩
    rw [hU]
    exact (hZ.kept (fun a h1 h2 => hS.2.1 a h1 (fun q => h2 (hX.2.2.2.2.2.2.2.1 a q)))).moved hW.alike
  have run : va_Run X.1 l X.2.1 R X.2.2.1 X.2.2.2.1 X.2.2.2.2.1 X.2.2.2.2.2.1 X.2.2.2.2.2.2.1 X.2.2.2.2.2.2.2 H locs cells slots mc ms (F0 X.2.2.2.1 pc ls stk0) stk (va_Qv Po (fun w1 t => va_P G.1 vwCl w1 t.heap ∧ va_D (va_A wc H.size) w1) (va_A wc H.size) (Value.ref b :: vs).toArray) (va_A wc H.size) := by
    obtain ⟨⟨h1, h2, h3, h4⟩, h5, h6⟩ := hw
    rcases h1 with h1 | ⟨host, h1⟩
    · exact va_runI (nL := nL) ⟨hX.1, hX.2.1, hX.2.2.1, hX.2.2.2.1, hX.2.2.2.2.1⟩ (hM H.size) (cwI (Ts := BIG) (ws' := BIG) n hX.2.2.2.2.1 (good_code h2) rfl rfl rfl (hX.2.2.2.2.1 _ h3) (hX.2.2.2.2.1 _ h1) (hX.2.2.2.2.1 _ h5) h6 h4 hR) ⟨PcL.blind, hpre⟩ rfl hn hl.1 hst (lv_room hcat) hdg hRc
    · exact va_runIN (nL := nL) ⟨hX.1, hX.2.1, hX.2.2.1, hX.2.2.2.1, hX.2.2.2.2.1⟩ (hM H.size) ⟨va_cnB (Ts := BIG) (ws' := BIG) n hX.2.2.2.2.1 (good_code h2) rfl rfl rfl (hX.2.2.2.2.2.1.2.1.2 _ h1) (hX.2.2.2.2.1 _ h3) h4 hR, h6, hX.2.2.2.2.1 _ h5⟩ ⟨PcL.blind, hpre⟩ rfl hn hl.1 hst (lv_room hcat) hdg hRc
  refine va_callv run hS (fun q _ h => hF q h) hF (fun w1 t H1 locs1 ht hvm hw1 hB hz hk hS1 => ?_)
  obtain ⟨hP1, hD1⟩ := hB
  rw [ht] at hP1
  obtain ⟨hP2, hD2⟩ := join2 hP hD hk hF hP1 hD1
  exact kk w1 hw1 H1 locs1 ls hP2 hD2 hS1 hl
theorem l_callM (hX : CxL l R cc own nL G A X) {y : MethodName} {cy : ByteArray} {my fr lo mc ms n index b q0 ci : Nat} {T : u_T} {N : Nat} {fs : List Value} {vs stk0 : List Value} {wr wc : va_W} {Po : va_W → Prop} (hM : CtL l G y cy my fr lo mc ms (.ref b :: vs) wc Po) (hw : MLv own index y cy my none n) (hws : ws = wr ++ wc) (he : ws[q0]? = some (b, .inr (ci, fs))) (hcl : vwCl[ci]? = some (y.cls, T, N)) (hn : vs.length = n) (hst : stk0 = vs.reverse ++ .ref b :: stk) (hcat : (stk.map fun v => v.category).sum ≤ 8) (hR : fr + 1 ≤ R.frames ∧ 8 + (my + 11) + lo ≤ R.locals) (hRc : cells + mc ≤ R.cells ∧ slots + ms ≤ R.slots) (hdg : decode cc pc = .ok (.invokevirtual index, 3)) (kk : ∀ w1, Po w1 → KL l R nL G A Q X (cells + mc) (slots + ms) (wr ++ w1) L (pc + 3) stk) : KL l R nL G A Q X cells slots ws L pc stk0 := by
  subst hws
  intro H locs ls hP hD hS hl
  have hF : ∀ q, va_A wc H.size q → A q := by
    intro q h
    rcases h with ⟨k, e, h⟩ | h
    · exact hD.right.2 k (q, e) h
    · exact hX.2.2.2.2.2.2.1 q (Nat.le_trans hS.1 h)
  have hpre : ∀ U : State, U.heap = H → X.2.2.1.WarmedH U.vm → PcL G (.ref b :: vs) H.size wc (Value.ref b :: vs).toArray U := by
    intro U hU hW
    obtain ⟨hK, hN, hZ⟩ := hX.2.2.2.2.2.1
    refine ⟨rfl, by rw [hU], by rw [hU]; exact hP.right, hD.right.self, ⟨va_K.moved hW.alike hK, hN.warm hW, ?_⟩, fun q hq => hX.2.2.2.2.2.2.2.1 q (hF q hq), AOs.moved hW.alike hX.2.2.2.2.2.2.2.2.2⟩
    rw [hU]
    exact (hZ.kept (fun a h1 h2 => hS.2.1 a h1 (fun q => h2 (hX.2.2.2.2.2.2.2.1 a q)))).moved hW.alike
  have hrec := va_recv (q := (y.cls, T, N)) hX.2.2.2.2.2.1.1 hP hcl (q0 := q0) (a := b) (fs := fs) he
  have run : va_Run X.1 l X.2.1 R X.2.2.1 X.2.2.2.1 X.2.2.2.2.1 X.2.2.2.2.2.1 X.2.2.2.2.2.2.1 X.2.2.2.2.2.2.2 H locs cells slots mc ms (F0 X.2.2.2.1 pc ls stk0) stk (va_Qv Po (fun w1 t => va_P G.1 vwCl w1 t.heap ∧ va_D (va_A wc H.size) w1) (va_A wc H.size) (Value.ref b :: vs).toArray) (va_A wc H.size) := by
    obtain ⟨⟨h1, h2, h3, h4⟩, h5, h6⟩ := hw
    rcases h1 with h1 | ⟨host, h1⟩
    · exact va_runV (nL := nL) ⟨hX.1, hX.2.1, hX.2.2.1, hX.2.2.2.1, hX.2.2.2.2.1⟩ (hM H.size) ⟨callB_of (Ts := BIG) (ws' := BIG) n hX.2.2.2.2.1 (good_code h2) rfl rfl rfl (hX.2.2.2.2.1 _ h3) (hX.2.2.2.2.1 _ h1) h4 hR, hX.2.2.2.2.1 _ h5, hX.2.2.2.2.1 _ h6⟩ ⟨PcL.blind, hrec, hpre⟩ rfl hn hl.1 hst (lv_room hcat) hdg hRc
    · exact va_runVN (nL := nL) ⟨hX.1, hX.2.1, hX.2.2.1, hX.2.2.2.1, hX.2.2.2.2.1⟩ (hM H.size) ⟨va_cnB (Ts := BIG) (ws' := BIG) n hX.2.2.2.2.1 (good_code h2) rfl rfl rfl (hX.2.2.2.2.2.1.2.1.2 _ h1) (hX.2.2.2.2.1 _ h3) h4 hR, hX.2.2.2.2.1 _ h5, hX.2.2.2.2.1 _ h6⟩ ⟨PcL.blind, hrec, hpre⟩ rfl hn hl.1 hst (lv_room hcat) hdg hRc
  refine va_callv run hS (fun q _ h => hF q h) hF (fun w1 t H1 locs1 ht hvm hw1 hB hz hk hS1 => ?_)
  obtain ⟨hP1, hD1⟩ := hB
  rw [ht] at hP1
  obtain ⟨hP2, hD2⟩ := join2 hP hD hk hF hP1 hD1
  exact kk w1 hw1 H1 locs1 ls hP2 hD2 hS1 hl
end KLROWS
theorem ctL_of {l : Launch} {G : GL} {y : MethodName} {cy : ByteArray} {my fr lo mc ms : Nat} {vs : List Value} {wc : va_W} {Po : va_W → Prop} {L : List (Option Value)} (hp : plainName y.cls = true) (hc : ∀ v ∈ vs, v.category = 1) (hlen : (lg_sl vs).length ≤ my) (hL : ∀ (i : Nat) (v : Value), L[i]? = some (some v) → vs[i]? = some v)
    (body : ∀ (X : CT) (sz : Nat), X.2.2.1.heap.size = sz → CxL l { frames := fr, cells := mc, slots := ms, locals := lo } cy y.cls my G (va_A wc sz) X → X.2.2.2.2.2.2.1.name = y.name → X.2.2.2.2.2.2.1.sig.returnType = none → KL l { frames := fr, cells := mc, slots := ms, locals := lo } my G (va_A wc sz) (MQ X.2.2.2.2.2.1 (va_Qv Po (fun w1 t => va_P G.1 vwCl w1 t.heap ∧ va_D (va_A wc sz) w1) (va_A wc sz)) X.2.2.2.2.1 X.2.2.1 mc ms (va_A wc sz)) X 0 0 wc L 0 []) : CtL l G y cy my fr lo mc ms vs wc Po := by
  intro sz
  refine Met.ofW (cc := cy) (maxL := my) (ret := none) hp rfl ?_
  intro p e s m args below meth c s₁ B hml hv
  obtain ⟨rfl, hsz, hP, hD, hT, hAG, hAO⟩ := hv
  have hts := atoms_spec (ws := Cond.code y cy my none :: BIG) B.pre
  have hin : meth.name = y.name := (name_of_methodNamed B.named B.method).1
  have hl := lv_entry vs (n := my) hlen
  rw [lg_entry_eq]
  generalize (lg_sl vs ++ List.replicate (my - (lg_sl vs).length) Slot.unset).toArray = ls at hl ⊢
  exact body (p, e, s, m, vs.toArray, below, meth, c) sz hsz ⟨B.exec, B.bytes, hml, findClass_of_methodNamed B.named, fun w hw => hts w (List.mem_cons_of_mem _ hw), hT, fun q h => Or.inr (hsz ▸ h), hAG, B.notSynchronized, hAO⟩ hin B.returns s.heap [] ls hP hD va_S.rf (lvh_entry hl hc hL)
theorem l_vret {l : Launch} {R : Room} {nL : Nat} {G : GL} {X : CT} {ws wc : va_W} {L : List (Option Value)} {pc cells slots sz : Nat} {cc : ByteArray} {own : String} {Po : va_W → Prop} (hX : CxL l R cc own nL G (va_A wc sz) X) (hr : X.2.2.2.2.2.2.1.sig.returnType = none) (hPo : Po ws) (hdg : decode cc pc = .ok (.return_, 1)) : KL l R nL G (va_A wc sz) (MQ X.2.2.2.2.2.1 (va_Qv Po (fun w1 t => va_P G.1 vwCl w1 t.heap ∧ va_D (va_A wc sz) w1) (va_A wc sz)) X.2.2.2.2.1 X.2.2.1 cells slots (va_A wc sz)) X cells slots ws L pc [] := by
  intro H locs ls hP hD hS hl
  exact W.vret hX.1 hX.2.1 hr (fun t ht _ => ⟨⟨ws, rfl, hPo, by rw [ht]; exact hP, hD⟩, hS.F ht⟩) hS.2.2 hdg hX.2.2.2.2.2.2.2.2.1
/-- a row's contents while it is being filled -/
def cnt (g : Nat → Int32) (i : Nat) : Nat → Int32 := fun j => if j < i then g j else 0
theorem cnt_s {g : Nat → Int32} {i k : Nat} {v : Int32} (hk : k = i) (h : v = g i) : upd (cnt g i) k v = cnt g (i + 1) := by
  subst hk h
  funext j
  unfold upd cnt
  by_cases h1 : j = k
  · subst h1
    rw [if_pos rfl, if_pos (by omega)]
  · rw [if_neg h1]
    by_cases h2 : j < k
    · rw [if_pos h2, if_pos (by omega)]
    · rw [if_neg h2, if_neg (by omega)]
theorem cnt_0 {g : Nat → Int32} : (fun _ => 0 : Nat → Int32) = cnt g 0 := by
  funext j
  unfold cnt
  rw [if_neg (by omega)]
