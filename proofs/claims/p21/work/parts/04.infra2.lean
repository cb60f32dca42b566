/-! CELLS OF THE WORLD: what an entry says, for every memory -/
def LocE (E : Mem → Nat → va_E) : Prop := ∀ (M M' : Mem) (c : Nat), M c = M' c → E M c = E M' c
def isA (G : GL) (E : Mem → Nat → va_E) (c n t : Nat) : Prop := c < NC ∧ ∀ M : Mem, E M c = .inl (G.2.1 t, n, .inl (M c))
def isO (E : Mem → Nat → va_E) (c ci : Nat) (fs : (Nat → Int32) → List Value) : Prop := c < NC ∧ ∀ M : Mem, E M c = .inr (ci, fs (M c))
def isQ (G : GL) (E : Mem → Nat → va_E) (c n t : Nat) (f : (Nat → Int32) → Nat → Option Nat) : Prop := c < NC ∧ ∀ M : Mem, E M c = .inl (G.2.1 t, n, .inr (.inr (.inr (.inr (f (M c))))))
theorem mwr_eq (M : Mem) (c k : Nat) (v : Int32) : mwr M c k v c = upd (M c) k v := if_pos rfl
theorem mwr_ne (M : Mem) {c a : Nat} (k : Nat) (v : Int32) (h : a ≠ c) : mwr M c k v a = M a := if_neg h
theorem bind_some {α β : Type} {x : Option α} {F : α → Option β} {r : β} (h : x.bind F = some r) : ∃ a, x = some a ∧ F a = some r := by
  cases x with
  | none => cases h
  | some a => exact ⟨a, rfl, h⟩
theorem narrow_z {v : Int32} (h : v = 0 ∨ v = 1) : narrow .boolean (.int v) = .int v ∧ fits .boolean (.int v) = true := by
  rcases h with rfl | rfl <;> exact ⟨rfl, rfl⟩
theorem isSb_lt {c : Nat} (h : isSb c = true) : c < 218 := by
  unfold isSb at h
  simp only [Bool.and_eq_true] at h
  exact Nat.blt_eq.mp h.1.2
theorem isWb_lt {c : Nat} (h : isWb c = true) : c < 218 := by
  unfold isWb at h
  simp only [Bool.and_eq_true] at h
  exact Nat.blt_eq.mp h.1.1.2
/-! PACKED WORDS -/
def FLk (own : String) (index ci k : Nat) : Prop := ∃ (C : String) (T : u_T) (N : Nat), vwCl[ci]? = some (C, T, N) ∧ (∀ w ∈ u_ws C T N, w ∈ BIG) ∧ k < N ∧ (Cond.fieldLink own index (T k).1 (T k).2.1 (T k).2.2.1 ∈ BIG ∨ ∃ host, (own, index, (T k).1, (T k).2.1, (T k).2.2.1, host) ∈ NWf)
def FPk (own : String) (index ci k : Nat) (ty : FieldType) : Prop := ∃ (C : String) (T : u_T) (N : Nat) (ty0 : Nat → FieldType), vwCl[ci]? = some (C, T, N) ∧ (∀ w ∈ u_ws C T N, w ∈ BIG) ∧ k < N ∧ (∀ j, j < N → parseFieldDescriptor (T j).2.2.1 = some (ty0 j)) ∧ (∀ a, a < N → ∀ b, b < N → a ≠ b → (T a).2.1 ≠ (T b).2.1) ∧ (T k).2.2.2 = false ∧ parseFieldDescriptor (T k).2.2.1 = some ty ∧ (Cond.fieldLink own index (T k).1 (T k).2.1 (T k).2.2.1 ∈ BIG ∨ ∃ host, (own, index, (T k).1, (T k).2.1, (T k).2.2.1, host) ∈ NWf)
def SLk (own : String) (index : Nat) (n d : String) : Prop := Cond.fieldLink own index RX6 n d ∈ BIG ∨ ∃ host, (own, index, RX6, n, d, host) ∈ NWf
def MLk (own : String) (index : Nat) (y : MethodName) (cy : ByteArray) (my : Nat) (ret : Option FieldType) (n : Nat) : Prop := (Cond.methodLink own index y ∈ BIG ∨ ∃ host, (own, index, y, host) ∈ NWm) ∧ Cond.code y cy my ret ∈ BIG ∧ Cond.initialized y.cls ∈ BIG ∧ (y.cls ≠ "java/lang/invoke/MethodHandle" ∧ y.cls ≠ "java/lang/invoke/VarHandle" ∧ (parseMethodDescriptor y.desc).map (fun d => d.parameters.length) = some n)
def MLv (own : String) (index : Nat) (y : MethodName) (cy : ByteArray) (my : Nat) (ret : Option FieldType) (n : Nat) : Prop := MLk own index y cy my ret n ∧ Cond.instanceMethod y ∈ BIG ∧ Cond.selects y.cls y y ∈ BIG
def MLs (own : String) (index : Nat) (y : MethodName) (cy : ByteArray) (my : Nat) (ret : Option FieldType) (n : Nat) : Prop := MLk own index y cy my ret n ∧ Cond.static y ∈ BIG
/-! CONTRACTS -/
def PostI (G : GL) (ad : Nat → Nat) (E : Mem → Nat → va_E) (r : Rv) : Array Value → State → Outcome → State → Prop := va_Qi (fun (v : Int32) (_ : Unit) => v = r.1) (fun _ t => va_P G.1 vwCl (wl ad (E r.2)) t.heap) G.2.2.1
def PostV (G : GL) (ad : Nat → Nat) (E : Mem → Nat → va_E) (r : Rv) : Array Value → State → Outcome → State → Prop := va_Qv (fun (_ : Unit) => True) (fun _ t => va_P G.1 vwCl (wl ad (E r.2)) t.heap) G.2.2.1
def nqv (ad : Nat → Nat) (v : Int32) : Option Nat := if v = nI 0 then none else some (ad v.toNatClampNeg)
def PostQ (G : GL) (ad : Nat → Nat) (E : Mem → Nat → va_E) (r : Rv) : Array Value → State → Outcome → State → Prop := va_Qq (fun (v : Option Nat) (_ : Unit) => v = nqv ad r.1) (fun _ t => va_P G.1 vwCl (wl ad (E r.2)) t.heap) G.2.2.1
def Ct (Po : GL → (Nat → Nat) → (Mem → Nat → va_E) → Rv → Array Value → State → Outcome → State → Prop) (l : Launch) (G : GL) (ad : Nat → Nat) (E : Mem → Nat → va_E) (y : MethodName) (cy : ByteArray) (my : Nat) (ret : Option FieldType) (fr lo : Nat) (vs : List Value) (M : Mem) (r : Rv) : Prop :=
  Met l y (Cond.code y cy my ret :: BIG) { frames := fr, cells := 0, slots := 0, locals := lo } (va_Pc vs (Pw G ad E M)) (Po G ad E r) 0 0 G.2.2.1
def QP (Po : GL → (Nat → Nat) → (Mem → Nat → va_E) → Rv → Array Value → State → Outcome → State → Prop) (G : GL) (ad : Nat → Nat) (E : Mem → Nat → va_E) : CT → Rv → State → Prop := fun X r => MQ X.2.2.2.2.2.1 (Po G ad E r) X.2.2.2.2.1 X.2.2.1 0 0 G.2.2.1
theorem ct_of {Po : GL → (Nat → Nat) → (Mem → Nat → va_E) → Rv → Array Value → State → Outcome → State → Prop} {l : Launch} {G : GL} {ad : Nat → Nat} {E : Mem → Nat → va_E} {y : MethodName} {cy : ByteArray} {my : Nat} {ret : Option FieldType} {fr lo : Nat} {vs : List Value} {M : Mem} {r : Rv} {o : Option Rv} {L : List (Option Value)}
    (hAd : AdOK G ad) (hp : plainName y.cls = true) (hc : ∀ v ∈ vs, v.category = 1) (hlen : (lg_sl vs).length ≤ my) (hL : ∀ (i : Nat) (v : Value), L[i]? = some (some v) → vs[i]? = some v)
    (body : ∀ X : CT, Cx l { frames := fr, cells := 0, slots := 0, locals := lo } cy y.cls my ret G ad X → KF l { frames := fr, cells := 0, slots := 0, locals := lo } my G ad E (QP Po G ad E) X o L 0 [] M) (ho : o = some r) : Ct Po l G ad E y cy my ret fr lo vs M r := by
  refine Met.ofW (cc := cy) (maxL := my) (ret := ret) hp rfl ?_
  intro p e s m args below meth c s₁ B hml hv
  obtain ⟨rfl, hP, hT⟩ := hv
  have hts := atoms_spec (ws := Cond.code y cy my ret :: BIG) B.pre
  have hl := lv_entry vs (n := my) hlen
  rw [lg_entry_eq]
  generalize (lg_sl vs ++ List.replicate (my - (lg_sl vs).length) Slot.unset).toArray = ls at hl ⊢
  exact body (p, e, s, m, vs.toArray, below, meth, c) ⟨B.exec, B.bytes, hml, findClass_of_methodNamed B.named, fun w hw => hts w (List.mem_cons_of_mem _ hw), hT, hAd, B.returns, B.notSynchronized⟩ r ho s.heap [] ls hP va_S.rf (lvh_entry hl hc hL)
section KROWS2
variable {l : Launch} {R : Room} {nL : Nat} {G : GL} {ad : Nat → Nat} {E : Mem → Nat → va_E} {Qc : CT → Rv → State → Prop} {X : CT} {o : Option Rv} {L L' : List (Option Value)} {pc : Nat} {stk : List Value} {M : Mem} {cc : ByteArray} {own : String} {ret : Option FieldType}
theorem Cx.link {own' : String} {index : Nat} {C n d : String} (hX : Cx l R cc own nL ret G ad X) (h : Cond.fieldLink own index C n d ∈ BIG ∨ ∃ host, (own, index, C, n, d, host) ∈ NWf) : (Cond.fieldLink own index C n d).before X.2.2.2.2.1 X.2.2.1 = true ∨ ∃ host, (Cond.fieldLinkNest own index C n d host).before X.2.2.2.2.1 X.2.2.1 = true := by
  rcases h with h | ⟨host, h⟩
  · exact Or.inl (hX.2.2.2.2.1 _ h)
  · exact Or.inr ⟨host, va_Nw.use rfl (hX.2.2.2.2.2.1.2.1.1 _ h)⟩
theorem k_get (hX : Cx l R cc own nL ret G ad X) {c ci k index : Nat} {fs : (Nat → Int32) → List Value} {v : Value} (hO : isO E c ci fs) (hF : FLk own index ci k) (hv : (fs (M c))[k]? = some v) (hdg : decode cc pc = .ok (.getfield index, 3)) (kk : KF l R nL G ad E Qc X o L (pc + 3) (v :: stk) M) : KF l R nL G ad E Qc X o L pc (.ref (ad c) :: stk) M := by
  obtain ⟨C, T, N, hc, hin, hk, hw⟩ := hF
  refine KF.step (fun H locs ls Q hP hS hl h => ?_) kk
  have he : (wl ad (E M))[c]? = some (ad c, .inr (ci, fs (M c))) := by rw [wl_at hO.1, hO.2]
  rcases Cx.link (own' := own) hX hw with hlk | ⟨host, hlk⟩
  · exact va_get hX.1 hX.2.1 hX.2.2.2.2.1 hin hX.2.2.2.1 hX.2.2.2.2.2.1.1 hP c he hc k hk hlk (fun _ h9 => h9) hv hdg h
  · exact va_getN hX.1 hX.2.1 hX.2.2.2.2.1 hin hX.2.2.2.1 hX.2.2.2.2.2.1.1 hP c he hc k hk hlk (fun _ h9 => h9) hv hdg h
theorem k_put (hX : Cx l R cc own nL ret G ad X) {c ci k index : Nat} {fs : (Nat → Int32) → List Value} {v : Value} {x : Int32} {ty : FieldType} (hLoc : LocE E) (hO : isO E c ci fs) (hF : FPk own index ci k ty) (hn : narrow ty v = v) (hfit : fits ty v = true) (hlen : k < (fs (M c)).length) (hset : (fs (M c)).set k v = fs (upd (M c) k x)) (hdg : decode cc pc = .ok (.putfield index, 3)) (kk : KF l R nL G ad E Qc X o L (pc + 3) stk (mwr M c k x)) : KF l R nL G ad E Qc X o L pc (v :: .ref (ad c) :: stk) M := by
  obtain ⟨C, T, N, ty0, hc, hin, hk, hty, hnm, hfin, hd, hw⟩ := hF
  intro r hr H locs ls hP hS hl
  have he : (wl ad (E M))[c]? = some (ad c, .inr (ci, fs (M c))) := by rw [wl_at hO.1, hO.2]
  have hD := AdOK.D hX.2.2.2.2.2.2.1 (E M)
  have hws : (wl ad (E M)).set c (ad c, .inr (ci, (fs (M c)).set k v)) = wl ad (E (mwr M c k x)) := by
    refine wl_set ?_ (fun j hj => hLoc _ _ _ (mwr_ne M k x hj))
    rw [hO.2, mwr_eq, hset]
  have go : ∀ (H1 : Heap) (locs1 : List Loc), va_P G.1 vwCl ((wl ad (E M)).set c (ad c, .inr (ci, (fs (M c)).set k v))) H1 → va_D G.2.2.1 ((wl ad (E M)).set c (ad c, .inr (ci, (fs (M c)).set k v))) → va_S G.2.2.1 X.2.2.1.heap H1 locs1 → W X.1 l X.2.1 R X.2.2.1 X.2.2.2.1 X.2.2.2.2.1 X.2.2.2.2.2.1 X.2.2.2.2.2.2.1 X.2.2.2.2.2.2.2 H1 locs1 R.cells R.slots (Qc X r) (F0 X.2.2.2.1 (pc + 3) ls stk) := fun H1 locs1 hP1 _ hS1 => kk r hr H1 locs1 ls (hws ▸ hP1) hS1 hl
  rcases Cx.link (own' := own) hX hw with hlk | ⟨host, hlk⟩
  · exact va_put hX.1 hX.2.1 hX.2.2.2.2.1 hin ty0 hty hnm hX.2.2.2.1 hX.2.2.2.2.2.1.1 hP hD hS c he hc k hk hlk (fun _ h9 => h9) hfin hd hn hfit hlen hdg go
  · exact va_putN hX.1 hX.2.1 hX.2.2.2.2.1 hin ty0 hty hnm hX.2.2.2.1 hX.2.2.2.2.2.1.1 hP hD hS c he hc k hk hlk (fun _ h9 => h9) hfin hd hn hfit hlen hdg go
theorem k_puti (hX : Cx l R cc own nL ret G ad X) {c ci k index : Nat} {fs : (Nat → Int32) → List Value} {x : Int32} {F : Mem → Option Rv} (hLoc : LocE E) (hO : isO E c ci fs) (hF : FPk own index ci k .int) (hlen : k < (fs (M c)).length) (hset : (fs (M c)).set k (.int x) = fs (upd (M c) k x)) (hdg : decode cc pc = .ok (.putfield index, 3)) (kk : ∀ M', KF l R nL G ad E Qc X (F M') L (pc + 3) stk M') : KF l R nL G ad E Qc X ((mpi M c k x).bind F) L pc (.int x :: .ref (ad c) :: stk) M :=
  k_put hX hLoc hO hF rfl rfl hlen hset hdg (kk _)
theorem k_putz (hX : Cx l R cc own nL ret G ad X) {c ci k index : Nat} {fs : (Nat → Int32) → List Value} {x : Int32} {F : Mem → Option Rv} (hLoc : LocE E) (hO : isO E c ci fs) (hF : FPk own index ci k .boolean) (hlen : k < (fs (M c)).length) (hset : (fs (M c)).set k (.int x) = fs (upd (M c) k x)) (hdg : decode cc pc = .ok (.putfield index, 3)) (kk : ∀ M', KF l R nL G ad E Qc X (F M') L (pc + 3) stk M') : KF l R nL G ad E Qc X ((mpz M c k x).bind F) L pc (.int x :: .ref (ad c) :: stk) M := by
  intro r hr
  obtain ⟨M', h1, h2⟩ := bind_some hr
  unfold mpz at h1
  split at h1
  next hz =>
    cases h1
    exact k_put hX hLoc hO hF (narrow_z hz).1 (narrow_z hz).2 hlen hset hdg (kk _) r h2
  next => cases h1
/-- a reference to a State goes into a field -/
theorem k_puts (hX : Cx l R cc own nL ret G ad X) {c ci k d index : Nat} {fs : (Nat → Int32) → List Value} {F : Mem → Option Rv} (hLoc : LocE E) (hO : isO E c ci fs) (hF : FPk own index ci k (.object RX4)) (hlen : k < (fs (M c)).length) (hset : (fs (M c)).set k (.ref (ad d)) = fs (upd (M c) k (nI d))) (hdg : decode cc pc = .ok (.putfield index, 3)) (kk : ∀ M', KF l R nL G ad E Qc X (F M') L (pc + 3) stk M') : KF l R nL G ad E Qc X ((mpi M c k (nI d)).bind F) L pc (.ref (ad d) :: .ref (ad c) :: stk) M :=
  k_put hX hLoc hO hF rfl rfl hlen hset hdg (kk _)
/-- a reference to a State is read out of a field -/
theorem k_gets (hX : Cx l R cc own nL ret G ad X) {c ci k index : Nat} {fs : (Nat → Int32) → List Value} {x : Int32} {F : Nat → Option Rv} (hO : isO E c ci fs) (hF : FLk own index ci k) (hv : (fs (M c))[k]? = some (.ref (ad x.toNatClampNeg))) (hdg : decode cc pc = .ok (.getfield index, 3)) (kk : ∀ d, isSb d = true → KF l R nL G ad E Qc X (F d) L (pc + 3) (.ref (ad d) :: stk) M) : KF l R nL G ad E Qc X ((mlS x).bind F) L pc (.ref (ad c) :: stk) M := by
  intro r hr
  obtain ⟨d, h1, h2⟩ := bind_some hr
  unfold mlS at h1
  split at h1
  next hz =>
    cases h1
    exact k_get hX hO hF hv hdg (kk _ hz) r h2
  next => cases h1
theorem k_ald (hX : Cx l R cc own nL ret G ad X) {c n : Nat} {i : Int32} {F : Int32 → Option Rv} (hA : isA G E c n 0) (hdg : decode cc pc = .ok (.iaload, 1)) (kk : ∀ v, KF l R nL G ad E Qc X (F v) L (pc + 1) (.int v :: stk) M) : KF l R nL G ad E Qc X ((mrd M c n i).bind F) L pc (.int i :: .ref (ad c) :: stk) M := by
  intro r hr H locs ls hP hS hl
  obtain ⟨v, h1, h2⟩ := bind_some hr
  unfold mrd at h1
  split at h1
  next => cases h1
  next hin =>
    cases h1
    exact va_iald hX.1 hX.2.1 hX.2.2.2.2.2.1.1 hP c 0 (cA := G.2.1 0) (n := n) (f := M c) (by rw [wl_at hA.1, hA.2]) rfl hin hdg (kk _ r h2 H locs ls hP hS hl)
theorem k_zald (hX : Cx l R cc own nL ret G ad X) {c n : Nat} {i : Int32} {F : Int32 → Option Rv} (hA : isA G E c n 1) (hdg : decode cc pc = .ok (.baload, 1)) (kk : ∀ v, KF l R nL G ad E Qc X (F v) L (pc + 1) (.int v :: stk) M) : KF l R nL G ad E Qc X ((mrd M c n i).bind F) L pc (.int i :: .ref (ad c) :: stk) M := by
  intro r hr H locs ls hP hS hl
  obtain ⟨v, h1, h2⟩ := bind_some hr
  unfold mrd at h1
  split at h1
  next => cases h1
  next hin =>
    cases h1
    exact va_zald hX.1 hX.2.1 hX.2.2.2.2.2.1.1 hP c 1 (cA := G.2.1 1) (n := n) (f := M c) (by rw [wl_at hA.1, hA.2]) rfl hin hdg (kk _ r h2 H locs ls hP hS hl)
theorem k_cald (hX : Cx l R cc own nL ret G ad X) {c n : Nat} {i : Int32} {F : Int32 → Option Rv} (hA : isA G E c n 2) (hdg : decode cc pc = .ok (.caload, 1)) (kk : ∀ v, KF l R nL G ad E Qc X (F v) L (pc + 1) (.int v :: stk) M) : KF l R nL G ad E Qc X ((mrd M c n i).bind F) L pc (.int i :: .ref (ad c) :: stk) M := by
  intro r hr H locs ls hP hS hl
  obtain ⟨v, h1, h2⟩ := bind_some hr
  unfold mrd at h1
  split at h1
  next => cases h1
  next hin =>
    cases h1
    exact va_cald hX.1 hX.2.1 hX.2.2.2.2.2.1.1 hP c 2 (cA := G.2.1 2) (n := n) (f := M c) (by rw [wl_at hA.1, hA.2]) rfl hin hdg (kk _ r h2 H locs ls hP hS hl)
theorem wl_mst {c n t : Nat} (hLoc : LocE E) (hA : isA G E c n t) (k : Nat) (v : Int32) : (wl ad (E M)).set c (ad c, .inl (G.2.1 t, n, .inl (upd (M c) k v))) = wl ad (E (mwr M c k v)) := by
  refine wl_set ?_ (fun j hj => hLoc _ _ _ (mwr_ne M k v hj))
  rw [hA.2, mwr_eq]
theorem k_ast (hX : Cx l R cc own nL ret G ad X) {c n : Nat} {i x : Int32} {F : Mem → Option Rv} (hLoc : LocE E) (hA : isA G E c n 0) (hdg : decode cc pc = .ok (.iastore, 1)) (kk : ∀ M', KF l R nL G ad E Qc X (F M') L (pc + 1) stk M') : KF l R nL G ad E Qc X ((mst M c n i x).bind F) L pc (.int x :: .int i :: .ref (ad c) :: stk) M := by
  intro r hr H locs ls hP hS hl
  obtain ⟨M', h1, h2⟩ := bind_some hr
  unfold mst at h1
  split at h1
  next => cases h1
  next hin =>
    cases h1
    exact va_iast hX.1 hX.2.1 hX.2.2.2.2.2.1.1 hP (AdOK.D hX.2.2.2.2.2.2.1 (E M)) hS c 0 (cA := G.2.1 0) (n := n) (f := M c) (by rw [wl_at hA.1, hA.2]) rfl hin hdg (fun H1 locs1 hP1 _ hS1 => kk _ r h2 H1 locs1 ls (wl_mst hLoc hA _ _ ▸ hP1) hS1 hl)
theorem k_zast (hX : Cx l R cc own nL ret G ad X) {c n : Nat} {i x : Int32} {F : Mem → Option Rv} (hLoc : LocE E) (hA : isA G E c n 1) (hdg : decode cc pc = .ok (.bastore, 1)) (kk : ∀ M', KF l R nL G ad E Qc X (F M') L (pc + 1) stk M') : KF l R nL G ad E Qc X ((mst M c n i (nz x)).bind F) L pc (.int x :: .int i :: .ref (ad c) :: stk) M := by
  intro r hr H locs ls hP hS hl
  obtain ⟨M', h1, h2⟩ := bind_some hr
  unfold mst at h1
  split at h1
  next => cases h1
  next hin =>
    cases h1
    exact va_zast hX.1 hX.2.1 hX.2.2.2.2.2.1.1 hP (AdOK.D hX.2.2.2.2.2.2.1 (E M)) hS c 1 (cA := G.2.1 1) (n := n) (f := M c) (by rw [wl_at hA.1, hA.2]) rfl hin hdg (fun H1 locs1 hP1 _ hS1 => kk _ r h2 H1 locs1 ls (wl_mst hLoc hA _ (nz x) ▸ hP1) hS1 hl)
theorem k_cast (hX : Cx l R cc own nL ret G ad X) {c n : Nat} {i x : Int32} {F : Mem → Option Rv} (hLoc : LocE E) (hA : isA G E c n 2) (hdg : decode cc pc = .ok (.castore, 1)) (kk : ∀ M', KF l R nL G ad E Qc X (F M') L (pc + 1) stk M') : KF l R nL G ad E Qc X ((mst M c n i (nc x)).bind F) L pc (.int x :: .int i :: .ref (ad c) :: stk) M := by
  intro r hr H locs ls hP hS hl
  obtain ⟨M', h1, h2⟩ := bind_some hr
  unfold mst at h1
  split at h1
  next => cases h1
  next hin =>
    cases h1
    exact va_cast hX.1 hX.2.1 hX.2.2.2.2.2.1.1 hP (AdOK.D hX.2.2.2.2.2.2.1 (E M)) hS c 2 (cA := G.2.1 2) (n := n) (f := M c) (by rw [wl_at hA.1, hA.2]) rfl hin hdg (fun H1 locs1 hP1 _ hS1 => kk _ r h2 H1 locs1 ls (wl_mst hLoc hA _ (nc x) ▸ hP1) hS1 hl)
theorem k_alen (hX : Cx l R cc own nL ret G ad X) {c n t : Nat} {v : Int32} (hA : isA G E c n t) (ht : t < 3) (hv : Int32.ofNat n = v) (hdg : decode cc pc = .ok (.arraylength, 1)) (kk : KF l R nL G ad E Qc X o L (pc + 1) (.int v :: stk) M) : KF l R nL G ad E Qc X o L pc (.ref (ad c) :: stk) M := by
  refine KF.step (fun H locs ls Q hP hS hl h => ?_) kk
  have ht2 : ∃ ty, (tyl G.2.1)[t]? = some (G.2.1 t, ty) := by
    match t, ht with
    | 0, _ => exact ⟨_, rfl⟩
    | 1, _ => exact ⟨_, rfl⟩
    | 2, _ => exact ⟨_, rfl⟩
  obtain ⟨ty, ht2⟩ := ht2
  exact va_alen hX.1 hX.2.1 hX.2.2.2.2.2.1.1 hP c t (cA := G.2.1 t) (x := (n, .inl (M c))) (by rw [wl_at hA.1, hA.2]) ht2 hv hdg h
/-- a static row of characters -/
theorem k_getll (hX : Cx l R cc own nL ret G ad X) {index : Nat} (hF : SLk own index "LEAF_LETTERS" "[C") (hdg : decode cc pc = .ok (.getstatic index, 3)) (kk : KF l R nL G ad E Qc X o L (pc + 3) (.ref G.2.2.2.1 :: stk) M) : KF l R nL G ad E Qc X o L pc stk M := by
  refine KF.step (fun H locs ls Q hP hS hl h => ?_) kk
  rcases Cx.link (own' := own) hX hF with hlk | ⟨host, hlk⟩
  · exact va_gets hX.1 hX.2.1 hX.2.2.2.2.2.1.2.2.1.1 hS hX.2.2.2.1 hlk (fun _ h9 => h9) hdg h
  · exact va_getsN hX.1 hX.2.1 hX.2.2.2.2.2.1.2.2.1.1 hS hX.2.2.2.1 hlk (fun _ h9 => h9) hdg h
theorem k_getsep (hX : Cx l R cc own nL ret G ad X) {index : Nat} (hF : SLk own index "SEPARATORS" "[C") (hdg : decode cc pc = .ok (.getstatic index, 3)) (kk : KF l R nL G ad E Qc X o L (pc + 3) (.ref G.2.2.2.2.1 :: stk) M) : KF l R nL G ad E Qc X o L pc stk M := by
  refine KF.step (fun H locs ls Q hP hS hl h => ?_) kk
  rcases Cx.link (own' := own) hX hF with hlk | ⟨host, hlk⟩
  · exact va_gets hX.1 hX.2.1 hX.2.2.2.2.2.1.2.2.2.1 hS hX.2.2.2.1 hlk (fun _ h9 => h9) hdg h
  · exact va_getsN hX.1 hX.2.1 hX.2.2.2.2.2.1.2.2.2.1 hS hX.2.2.2.1 hlk (fun _ h9 => h9) hdg h
theorem k_caldll (hX : Cx l R cc own nL ret G ad X) {i : Int32} {F : Int32 → Option Rv} (hdg : decode cc pc = .ok (.caload, 1)) (kk : ∀ v, KF l R nL G ad E Qc X (F v) L (pc + 1) (.int v :: stk) M) : KF l R nL G ad E Qc X ((mrs llt 16 i).bind F) L pc (.int i :: .ref G.2.2.2.1 :: stk) M := by
  intro r hr H locs ls hP hS hl
  obtain ⟨v, h1, h2⟩ := bind_some hr
  unfold mrs at h1
  split at h1
  next => cases h1
  next hin =>
    cases h1
    exact va_tc hX.1 hX.2.1 hX.2.2.2.2.2.1.2.2.1.2.1 hS hin rfl hdg (kk _ r h2 H locs ls hP hS hl)
theorem k_caldsep (hX : Cx l R cc own nL ret G ad X) {i : Int32} {F : Int32 → Option Rv} (hdg : decode cc pc = .ok (.caload, 1)) (kk : ∀ v, KF l R nL G ad E Qc X (F v) L (pc + 1) (.int v :: stk) M) : KF l R nL G ad E Qc X ((mrs sepf 22 i).bind F) L pc (.int i :: .ref G.2.2.2.2.1 :: stk) M := by
  intro r hr H locs ls hP hS hl
  obtain ⟨v, h1, h2⟩ := bind_some hr
  unfold mrs at h1
  split at h1
  next => cases h1
  next hin =>
    cases h1
    exact va_tc hX.1 hX.2.1 hX.2.2.2.2.2.1.2.2.2.2 hS hin rfl hdg (kk _ r h2 H locs ls hP hS hl)
/-! ends -/
theorem k_iret {fr lo : Nat} (hX : Cx l { frames := fr, cells := 0, slots := 0, locals := lo } cc own nL (some .int) G ad X) {v : Int32} (hdg : decode cc pc = .ok (.ireturn, 1)) : KF l { frames := fr, cells := 0, slots := 0, locals := lo } nL G ad E (QP PostI G ad E) X (some (v, M)) L pc [.int v] M := by
  intro r hr H locs ls hP hS hl
  cases hr
  exact W.iret hX.1 hX.2.1 hX.2.2.2.2.2.2.2.1 (fun t ht _ => ⟨⟨v, (), rfl, rfl, by show va_P _ _ _ t.heap; rw [ht]; exact hP⟩, hS.F ht⟩) hS.2.2 hdg hX.2.2.2.2.2.2.2.2
theorem k_zret {fr lo : Nat} (hX : Cx l { frames := fr, cells := 0, slots := 0, locals := lo } cc own nL (some .boolean) G ad X) {v : Int32} (hdg : decode cc pc = .ok (.ireturn, 1)) : KF l { frames := fr, cells := 0, slots := 0, locals := lo } nL G ad E (QP PostI G ad E) X (mrz v M) L pc [.int v] M := by
  intro r hr H locs ls hP hS hl
  unfold mrz at hr
  split at hr
  next hz =>
    cases hr
    exact W.zret hX.1 hX.2.1 hX.2.2.2.2.2.2.2.1 (narrow_z hz).1 (fun t ht _ => ⟨⟨v, (), rfl, rfl, by show va_P _ _ _ t.heap; rw [ht]; exact hP⟩, hS.F ht⟩) hS.2.2 hdg hX.2.2.2.2.2.2.2.2
  next => cases hr
theorem narrow_c {v : Int32} (h : nc v = v) : narrow .char (.int v) = .int v := by
  show Value.int (vp_nar .char v) = .int v
  exact congrArg Value.int h
theorem k_cret {fr lo : Nat} (hX : Cx l { frames := fr, cells := 0, slots := 0, locals := lo } cc own nL (some .char) G ad X) {v : Int32} (hdg : decode cc pc = .ok (.ireturn, 1)) : KF l { frames := fr, cells := 0, slots := 0, locals := lo } nL G ad E (QP PostI G ad E) X (mrc v M) L pc [.int v] M := by
  intro r hr H locs ls hP hS hl
  unfold mrc at hr
  split at hr
  next hz =>
    cases hr
    exact W.zret hX.1 hX.2.1 hX.2.2.2.2.2.2.2.1 (narrow_c hz) (fun t ht _ => ⟨⟨v, (), rfl, rfl, by show va_P _ _ _ t.heap; rw [ht]; exact hP⟩, hS.F ht⟩) hS.2.2 hdg hX.2.2.2.2.2.2.2.2
  next => cases hr
/-- the law's script -/
theorem k_scald (hX : Cx l R cc own nL ret G ad X) {sc : Scr} (hsc : sc = G.2.2.2.2.2.2) {i : Int32} {F : Int32 → Option Rv} (hdg : decode cc pc = .ok (.iaload, 1)) (kk : ∀ v, KF l R nL G ad E Qc X (F v) L (pc + 1) (.int v :: stk) M) : KF l R nL G ad E Qc X ((mrs sc.2 sc.1 i).bind F) L pc (.int i :: .ref G.2.2.2.2.2.1 :: stk) M := by
  subst hsc
  intro r hr H locs ls hP hS hl
  obtain ⟨v, h1, h2⟩ := bind_some hr
  unfold mrs at h1
  split at h1
  next => cases h1
  next hin =>
    cases h1
    have hZ := hX.2.2.2.2.2.1.2.2.1.2.2
    exact va_sld hX.1 hX.2.1 hZ.1 hZ.lt hZ.2 hS hin hdg (kk _ r h2 H locs ls hP hS hl)
theorem k_scalen (hX : Cx l R cc own nL ret G ad X) {sc : Scr} (hsc : sc = G.2.2.2.2.2.2) (hdg : decode cc pc = .ok (.arraylength, 1)) (kk : KF l R nL G ad E Qc X o L (pc + 1) (.int (nI sc.1) :: stk) M) : KF l R nL G ad E Qc X o L pc (.ref G.2.2.2.2.2.1 :: stk) M := by
  subst hsc
  refine KF.step (fun H locs ls Q hP hS hl h => ?_) kk
  have hZ := hX.2.2.2.2.2.1.2.2.1.2.2
  exact va_slen hX.1 hX.2.1 hZ.1 hZ.lt hZ.2 hS hdg h
theorem k_vret {fr lo : Nat} (hX : Cx l { frames := fr, cells := 0, slots := 0, locals := lo } cc own nL none G ad X) {v : Int32} (hdg : decode cc pc = .ok (.return_, 1)) : KF l { frames := fr, cells := 0, slots := 0, locals := lo } nL G ad E (QP PostV G ad E) X (some (v, M)) L pc [] M := by
  intro r hr H locs ls hP hS hl
  cases hr
  exact W.vret hX.1 hX.2.1 hX.2.2.2.2.2.2.2.1 (fun t ht _ => ⟨⟨(), rfl, trivial, by show va_P _ _ _ t.heap; rw [ht]; exact hP⟩, hS.F ht⟩) hS.2.2 hdg hX.2.2.2.2.2.2.2.2
theorem k_aret {C : String} {fr lo : Nat} (hX : Cx l { frames := fr, cells := 0, slots := 0, locals := lo } cc own nL (some (.object C)) G ad X) {c : Nat} (hc : isWb c = true) (hdg : decode cc pc = .ok (.areturn, 1)) : KF l { frames := fr, cells := 0, slots := 0, locals := lo } nL G ad E (QP PostQ G ad E) X (some (nI c, M)) L pc [.ref (ad c)] M := by
  intro r hr H locs ls hP hS hl
  cases hr
  have h1 := isWb_lt hc
  have h0 : 0 < c := by
    unfold isWb at hc
    simp only [Bool.and_eq_true, Nat.ble_eq] at hc
    omega
  have hq : nqv ad (nI c) = some (ad c) := by
    unfold nqv
    rw [if_neg (show ¬ nI c = nI 0 from nI_ne0 h0 (by omega)), nI_clamp (by omega)]
  exact W.aret hX.1 hX.2.1 hX.2.2.2.2.2.2.2.1 (Or.inl ⟨C, rfl⟩) (Or.inr ⟨_, rfl⟩) (fun t ht _ => ⟨⟨some (ad c), (), rfl, hq.symm, by show va_P _ _ _ t.heap; rw [ht]; exact hP⟩, hS.F ht⟩) hS.2.2 hdg hX.2.2.2.2.2.2.2.2
theorem k_aretN {C : String} {fr lo : Nat} (hX : Cx l { frames := fr, cells := 0, slots := 0, locals := lo } cc own nL (some (.object C)) G ad X) (hdg : decode cc pc = .ok (.areturn, 1)) : KF l { frames := fr, cells := 0, slots := 0, locals := lo } nL G ad E (QP PostQ G ad E) X (some (nI 0, M)) L pc [.null] M := by
  intro r hr H locs ls hP hS hl
  cases hr
  exact W.aret hX.1 hX.2.1 hX.2.2.2.2.2.2.2.1 (Or.inl ⟨C, rfl⟩) (Or.inl rfl) (fun t ht _ => ⟨⟨none, (), rfl, rfl, by show va_P _ _ _ t.heap; rw [ht]; exact hP⟩, hS.F ht⟩) hS.2.2 hdg hX.2.2.2.2.2.2.2.2
end KROWS2
section KROWS3
variable {l : Launch} {R : Room} {nL : Nat} {G : GL} {ad : Nat → Nat} {E : Mem → Nat → va_E} {Qc : CT → Rv → State → Prop} {X : CT} {o : Option Rv} {L L' : List (Option Value)} {pc : Nat} {stk : List Value} {M : Mem} {cc : ByteArray} {own : String} {ret : Option FieldType}
/-- arraycopy between rows of ints -/
theorem k_copy (hX : Cx l R cc own nL ret G ad X) {a na b nb index : Nat} {sp dp n : Int32} {F : Mem → Option Rv} (hLoc : LocE E) (hA : isA G E a na 0) (hB : isA G E b nb 0) (hw : Cond.methodLink own index arraycopyName ∈ BIG) (hnat : Cond.native arraycopyName ∈ BIG) (hst : Cond.static arraycopyName ∈ BIG) (hini : Cond.initialized "java/lang/System" ∈ BIG) (hR1 : 1 ≤ R.frames) (hR2 : (stk.map fun v => v.category).sum + (nativeFrameWords "java/lang/System" "arraycopy" 5 + 11) ≤ R.locals) (hdg : decode cc pc = .ok (.invokestatic index, 3)) (kk : ∀ M', KF l R nL G ad E Qc X (F M') L (pc + 3) stk M') : KF l R nL G ad E Qc X ((mcp M a na b nb sp dp n).bind F) L pc (.int n :: .int dp :: .ref (ad b) :: .int sp :: .ref (ad a) :: stk) M := by
  intro r hr H locs ls hP hS hl
  obtain ⟨M', h1, h2⟩ := bind_some hr
  unfold mcp at h1
  split at h1
  next => cases h1
  next hin =>
    cases h1
    have hws : (wl ad (E M)).set b (ad b, .inl (G.2.1 0, nb, .inl (va_cpy (M a) (M b) sp.toNatClampNeg dp.toNatClampNeg n.toNatClampNeg))) = wl ad (E (fun c => if c = b then va_cpy (M a) (M b) sp.toNatClampNeg dp.toNatClampNeg n.toNatClampNeg else M c)) := by
      refine wl_set ?_ (fun j hj => hLoc _ _ _ (if_neg hj))
      rw [hB.2, if_pos rfl]
    refine va_copyi hX.1 hX.2.1 (hX.2.2.1.trans hl.1.symm) hX.2.2.2.1 (hX.2.2.2.2.1 _ hw) (hX.2.2.2.2.1 _ hnat) (hX.2.2.2.2.1 _ hst) (hX.2.2.2.2.1 _ hini) hX.2.2.2.2.2.1.1 hP (AdOK.D hX.2.2.2.2.2.2.1 (E M)) hS a b 0 0 (c0 := G.2.1 0) (c1 := G.2.1 0) (n0 := na) (n1 := nb) (f := M a) (g := M b) (ty := .int) (by rw [wl_at hA.1, hA.2]) (by rw [wl_at hB.1, hB.2]) rfl rfl rfl (fun q => hin (Or.inl q)) (fun q => hin (Or.inr (Or.inl q))) (fun q => hin (Or.inr (Or.inr (Or.inl q)))) ?_ ?_ (fun _ _ => rfl) hR1 hR2 hdg (fun H1 locs1 hP1 _ hS1 => kk _ r h2 H1 locs1 ls (hws ▸ hP1) hS1 hl)
    · exact Nat.not_lt.mp (fun q => hin (Or.inr (Or.inr (Or.inr (Or.inl q)))))
    · exact Nat.not_lt.mp (fun q => hin (Or.inr (Or.inr (Or.inr (Or.inr q)))))
/-! rows of references -/
theorem k_aldS (hX : Cx l R cc own nL ret G ad X) {c n : Nat} {i : Int32} {F : Nat → Option Rv} (hA : isQ G E c n 3 (fun m j => some (ad (m j).toNatClampNeg))) (hdg : decode cc pc = .ok (.aaload, 1)) (kk : ∀ d, isSb d = true → KF l R nL G ad E Qc X (F d) L (pc + 1) (.ref (ad d) :: stk) M) : KF l R nL G ad E Qc X ((mrd M c n i).bind fun v => (mlS v).bind F) L pc (.int i :: .ref (ad c) :: stk) M := by
  intro r hr H locs ls hP hS hl
  obtain ⟨v, h1, h2⟩ := bind_some hr
  obtain ⟨d, h3, h4⟩ := bind_some h2
  unfold mrd at h1
  split at h1
  next => cases h1
  next hin =>
    cases h1
    unfold mlS at h3
    split at h3
    next hz =>
      cases h3
      exact va_aldq hX.1 hX.2.1 hX.2.2.2.2.2.1.1 hP c 3 (cA := G.2.1 3) (n := n) (f := fun j => some (ad (M c j).toNatClampNeg)) (by rw [wl_at hA.1, hA.2]) rfl hin hdg (kk _ hz r h4 H locs ls hP hS hl)
    next => cases h3
theorem k_aldW (hX : Cx l R cc own nL ret G ad X) {c : Nat} {i : Int32} {F : Nat → Option Rv} (hA : isQ G E (c + 2) 8 4 (fun _ j => some (ad (c + 3 + 3 * j)))) (hdg : decode cc pc = .ok (.aaload, 1)) (kk : ∀ d, mlW c i = some d → KF l R nL G ad E Qc X (F d) L (pc + 1) (.ref (ad d) :: stk) M) : KF l R nL G ad E Qc X ((mlW c i).bind F) L pc (.int i :: .ref (ad (c + 2)) :: stk) M := by
  intro r hr H locs ls hP hS hl
  obtain ⟨d, h1, h2⟩ := bind_some hr
  have h3 := h1
  unfold mlW at h1
  split at h1
  next => cases h1
  next hin =>
    cases h1
    exact va_aldq hX.1 hX.2.1 hX.2.2.2.2.2.1.1 hP (c + 2) 4 (cA := G.2.1 4) (n := 8) (f := fun j => some (ad (c + 3 + 3 * j))) (by rw [wl_at hA.1, hA.2]) rfl hin hdg (kk _ h3 r h2 H locs ls hP hS hl)
theorem k_astS (hX : Cx l R cc own nL ret G ad X) {c n d : Nat} {i : Int32} {F : Mem → Option Rv} {fs : (Nat → Int32) → List Value} (hLoc : LocE E) (hA : isQ G E c n 3 (fun m j => some (ad (m j).toNatClampNeg))) (hd : isSb d = true) (hO : isO E d 4 fs) (hdg : decode cc pc = .ok (.aastore, 1)) (kk : ∀ M', KF l R nL G ad E Qc X (F M') L (pc + 1) stk M') : KF l R nL G ad E Qc X ((mst M c n i (nI d)).bind F) L pc (.ref (ad d) :: .int i :: .ref (ad c) :: stk) M := by
  intro r hr H locs ls hP hS hl
  obtain ⟨M', h1, h2⟩ := bind_some hr
  unfold mst at h1
  split at h1
  next => cases h1
  next hin =>
    cases h1
    have hd1 := isSb_lt hd
    have hws : (wl ad (E M)).set c (ad c, .inl (G.2.1 3, n, .inr (.inr (.inr (.inr (va_up (fun j => some (ad (M c j).toNatClampNeg)) i.toNatClampNeg (some (ad d)))))))) = wl ad (E (mwr M c i.toNatClampNeg (nI d))) := by
      refine wl_set ?_ (fun j hj => hLoc _ _ _ (mwr_ne M _ _ hj))
      rw [hA.2, mwr_eq]
      have hf : (fun j => some (ad (upd (M c) i.toNatClampNeg (nI d) j).toNatClampNeg)) = va_up (fun j => some (ad (M c j).toNatClampNeg)) i.toNatClampNeg (some (ad d)) := by
        funext j
        unfold va_up upd
        by_cases hj : j = i.toNatClampNeg
        · rw [if_pos hj, if_pos hj, nI_clamp (by omega)]
        · rw [if_neg hj, if_neg hj]
      rw [← hf]
    refine va_astq hX.1 hX.2.1 hX.2.2.2.2.2.1.1 hP (AdOK.D hX.2.2.2.2.2.2.1 (E M)) hS c 3 d 4 (cA := G.2.1 3) (r := (RX4, TX4, 5)) (n := n) (vs := fs (M d)) (f := fun j => some (ad (M c j).toNatClampNeg)) (by rw [wl_at hA.1, hA.2]) rfl (by rw [wl_at hO.1, hO.2]) rfl hin hdg (fun H1 locs1 hP1 _ hS1 => kk _ r h2 H1 locs1 ls (hws ▸ hP1) hS1 hl)
/-! calls -/
theorem MLk.lk {index : Nat} {y : MethodName} {cy : ByteArray} {my : Nat} {ry : Option FieldType} {n : Nat} (hX : Cx l R cc own nL ret G ad X) (h : MLk own index y cy my ry n) {fr lo : Nat} (hR : fr + 1 ≤ R.frames ∧ 8 + (my + 11) + lo ≤ R.locals) :
    CallB R X.2.2.1 X.2.2.2.2.1 own index y cy my ry (Cond.code y cy my ry :: BIG) { frames := fr, cells := 0, slots := 0, locals := lo } 0 0 n ∨ ∃ host, va_CN R X.2.2.1 X.2.2.2.2.1 own index y host cy my ry (Cond.code y cy my ry :: BIG) { frames := fr, cells := 0, slots := 0, locals := lo } 0 0 n := by
  obtain ⟨h1, h2, h3, h4⟩ := h
  rcases h1 with h1 | ⟨host, h1⟩
  · exact Or.inl (callB_of (Ts := BIG) (ws' := BIG) n hX.2.2.2.2.1 (good_code h2) rfl rfl rfl (hX.2.2.2.2.1 _ h3) (hX.2.2.2.2.1 _ h1) h4 hR)
  · exact Or.inr ⟨host, va_cnB (Ts := BIG) (ws' := BIG) n hX.2.2.2.2.1 (good_code h2) rfl rfl rfl (hX.2.2.2.2.2.1.2.1.2 _ h1) (hX.2.2.2.2.1 _ h3) h4 hR⟩
theorem Pw.at (hX : Cx l R cc own nL ret G ad X) {H : Heap} {locs : List Loc} (hP : va_P G.1 vwCl (wl ad (E M)) H) (hS : va_S G.2.2.1 X.2.2.1.heap H locs) (U : State) (hU : U.heap = H) (hW : X.2.2.1.WarmedH U.vm) (vs : List Value) : va_Pc vs (Pw G ad E M) vs.toArray U := by
  obtain ⟨hK, hN, hZ⟩ := hX.2.2.2.2.2.1
  refine ⟨rfl, by rw [hU]; exact hP, va_K.moved hW.alike hK, hN.warm hW, ?_⟩
  rw [hU]
  exact (hZ.kept (fun a h1 h2 => hS.2.1 a h1 h2)).moved hW.alike
theorem run_V {index : Nat} {y : MethodName} {cy : ByteArray} {my : Nat} {ry : Option FieldType} {n fr lo ci c : Nat} {T : u_T} {N : Nat} {Po : GL → (Nat → Nat) → (Mem → Nat → va_E) → Rv → Array Value → State → Outcome → State → Prop} {r : Rv} {fs : (Nat → Int32) → List Value} {vs : List Value} {H : Heap} {locs : List Loc} {ls : Array Slot} {stk0 : List Value}
    (hX : Cx l R cc own nL ret G ad X) (hM : Ct Po l G ad E y cy my ry fr lo (.ref (ad c) :: vs) M r) (hO : isO E c ci fs) (hcl : vwCl[ci]? = some (y.cls, T, N)) (hw : MLv own index y cy my ry n) (hR : fr + 1 ≤ R.frames ∧ 8 + (my + 11) + lo ≤ R.locals) (hn : vs.length = n) (hst : stk0 = vs.reverse ++ .ref (ad c) :: stk) (hcat : (stk.map fun v => v.category).sum ≤ 8) (hdg : decode cc pc = .ok (.invokevirtual index, 3)) (hP : va_P G.1 vwCl (wl ad (E M)) H) (hS : va_S G.2.2.1 X.2.2.1.heap H locs) (hl : lvh ls nL L) :
    va_Run X.1 l X.2.1 R X.2.2.1 X.2.2.2.1 X.2.2.2.2.1 X.2.2.2.2.2.1 X.2.2.2.2.2.2.1 X.2.2.2.2.2.2.2 H locs R.cells R.slots 0 0 (F0 X.2.2.2.1 pc ls stk0) stk (Po G ad E r (Value.ref (ad c) :: vs).toArray) G.2.2.1 := by
  have hrec := va_recv (q := (y.cls, T, N)) hX.2.2.2.2.2.1.1 hP hcl (q0 := c) (a := ad c) (fs := fs (M c)) (by rw [wl_at hO.1, hO.2])
  rcases hw.1.lk hX hR with hc | ⟨host, hc⟩
  · exact va_runV (nL := nL) ⟨hX.1, hX.2.1, hX.2.2.1, hX.2.2.2.1, hX.2.2.2.2.1⟩ hM ⟨hc, hX.2.2.2.2.1 _ hw.2.1, hX.2.2.2.2.1 _ hw.2.2⟩ ⟨Pw.blind _, hrec, fun U hU hW => Pw.at hX hP hS U hU hW _⟩ rfl hn hl.1 hst (lv_room hcat) hdg ⟨Nat.le_refl _, Nat.le_refl _⟩
  · exact va_runVN (nL := nL) ⟨hX.1, hX.2.1, hX.2.2.1, hX.2.2.2.1, hX.2.2.2.2.1⟩ hM ⟨hc, hX.2.2.2.2.1 _ hw.2.1, hX.2.2.2.2.1 _ hw.2.2⟩ ⟨Pw.blind _, hrec, fun U hU hW => Pw.at hX hP hS U hU hW _⟩ rfl hn hl.1 hst (lv_room hcat) hdg ⟨Nat.le_refl _, Nat.le_refl _⟩
theorem run_S {index : Nat} {y : MethodName} {cy : ByteArray} {my : Nat} {ry : Option FieldType} {n fr lo : Nat} {Po : GL → (Nat → Nat) → (Mem → Nat → va_E) → Rv → Array Value → State → Outcome → State → Prop} {r : Rv} {vs : List Value} {H : Heap} {locs : List Loc} {ls : Array Slot} {stk0 : List Value}
    (hX : Cx l R cc own nL ret G ad X) (hM : Ct Po l G ad E y cy my ry fr lo vs M r) (hw : MLs own index y cy my ry n) (hR : fr + 1 ≤ R.frames ∧ 8 + (my + 11) + lo ≤ R.locals) (hn : vs.length = n) (hst : stk0 = vs.reverse ++ stk) (hcat : (stk.map fun v => v.category).sum ≤ 8) (hdg : decode cc pc = .ok (.invokestatic index, 3)) (hP : va_P G.1 vwCl (wl ad (E M)) H) (hS : va_S G.2.2.1 X.2.2.1.heap H locs) (hl : lvh ls nL L) :
    va_Run X.1 l X.2.1 R X.2.2.1 X.2.2.2.1 X.2.2.2.2.1 X.2.2.2.2.2.1 X.2.2.2.2.2.2.1 X.2.2.2.2.2.2.2 H locs R.cells R.slots 0 0 (F0 X.2.2.2.1 pc ls stk0) stk (Po G ad E r vs.toArray) G.2.2.1 := by
  rcases hw.1.lk hX hR with hc | ⟨host, hc⟩
  · exact va_runS (nL := nL) ⟨hX.1, hX.2.1, hX.2.2.1, hX.2.2.2.1, hX.2.2.2.2.1⟩ hM ⟨hc, hX.2.2.2.2.1 _ hw.2⟩ ⟨Pw.blind _, fun U hU hW => Pw.at hX hP hS U hU hW _⟩ rfl hn hl.1 hst (lv_room hcat) hdg ⟨Nat.le_refl _, Nat.le_refl _⟩
  · exact va_runSN (nL := nL) ⟨hX.1, hX.2.1, hX.2.2.1, hX.2.2.2.1, hX.2.2.2.2.1⟩ hM ⟨hc, hX.2.2.2.2.1 _ hw.2, trivial⟩ ⟨Pw.blind _, fun U hU hW => Pw.at hX hP hS U hU hW _⟩ rfl hn hl.1 hst (lv_room hcat) hdg ⟨Nat.le_refl _, Nat.le_refl _⟩
theorem end_I {r : Rv} {a : Array Value} {H : Heap} {locs : List Loc} {ls : Array Slot} {Q : State → Prop} {stk0 : List Value} (hr : va_Run X.1 l X.2.1 R X.2.2.1 X.2.2.2.1 X.2.2.2.2.1 X.2.2.2.2.2.1 X.2.2.2.2.2.2.1 X.2.2.2.2.2.2.2 H locs R.cells R.slots 0 0 (F0 X.2.2.2.1 pc ls stk0) stk (PostI G ad E r a) G.2.2.1) (hS : va_S G.2.2.1 X.2.2.1.heap H locs)
    (kk : ∀ (H1 : Heap) (locs1 : List Loc), va_P G.1 vwCl (wl ad (E r.2)) H1 → va_S G.2.2.1 X.2.2.1.heap H1 locs1 → W X.1 l X.2.1 R X.2.2.1 X.2.2.2.1 X.2.2.2.2.1 X.2.2.2.2.2.1 X.2.2.2.2.2.2.1 X.2.2.2.2.2.2.2 H1 locs1 R.cells R.slots Q (F0 X.2.2.2.1 (pc + 3) ls (.int r.1 :: stk))) : W X.1 l X.2.1 R X.2.2.1 X.2.2.2.1 X.2.2.2.2.1 X.2.2.2.2.2.1 X.2.2.2.2.2.2.1 X.2.2.2.2.2.2.2 H locs R.cells R.slots Q (F0 X.2.2.2.1 pc ls stk0) := by
  refine va_calli hr hS (fun q _ h => h) (fun q h => h) (fun v u t H1 locs1 ht _ hv hB _ _ hS1 => ?_)
  subst hv
  exact kk H1 locs1 (by rw [← ht]; exact hB) hS1
theorem end_V {r : Rv} {a : Array Value} {H : Heap} {locs : List Loc} {ls : Array Slot} {Q : State → Prop} {stk0 : List Value} (hr : va_Run X.1 l X.2.1 R X.2.2.1 X.2.2.2.1 X.2.2.2.2.1 X.2.2.2.2.2.1 X.2.2.2.2.2.2.1 X.2.2.2.2.2.2.2 H locs R.cells R.slots 0 0 (F0 X.2.2.2.1 pc ls stk0) stk (PostV G ad E r a) G.2.2.1) (hS : va_S G.2.2.1 X.2.2.1.heap H locs)
    (kk : ∀ (H1 : Heap) (locs1 : List Loc), va_P G.1 vwCl (wl ad (E r.2)) H1 → va_S G.2.2.1 X.2.2.1.heap H1 locs1 → W X.1 l X.2.1 R X.2.2.1 X.2.2.2.1 X.2.2.2.2.1 X.2.2.2.2.2.1 X.2.2.2.2.2.2.1 X.2.2.2.2.2.2.2 H1 locs1 R.cells R.slots Q (F0 X.2.2.2.1 (pc + 3) ls stk)) : W X.1 l X.2.1 R X.2.2.1 X.2.2.2.1 X.2.2.2.2.1 X.2.2.2.2.2.1 X.2.2.2.2.2.2.1 X.2.2.2.2.2.2.2 H locs R.cells R.slots Q (F0 X.2.2.2.1 pc ls stk0) :=
  va_callv hr hS (fun q _ h => h) (fun q h => h) (fun u t H1 locs1 ht _ _ hB _ _ hS1 => kk H1 locs1 (by rw [← ht]; exact hB) hS1)
theorem end_Q {r : Rv} {a : Array Value} {H : Heap} {locs : List Loc} {ls : Array Slot} {Q : State → Prop} {stk0 : List Value} (hr : va_Run X.1 l X.2.1 R X.2.2.1 X.2.2.2.1 X.2.2.2.2.1 X.2.2.2.2.2.1 X.2.2.2.2.2.2.1 X.2.2.2.2.2.2.2 H locs R.cells R.slots 0 0 (F0 X.2.2.2.1 pc ls stk0) stk (PostQ G ad E r a) G.2.2.1) (hS : va_S G.2.2.1 X.2.2.1.heap H locs)
    (kk : ∀ (H1 : Heap) (locs1 : List Loc), va_P G.1 vwCl (wl ad (E r.2)) H1 → va_S G.2.2.1 X.2.2.1.heap H1 locs1 → W X.1 l X.2.1 R X.2.2.1 X.2.2.2.1 X.2.2.2.2.1 X.2.2.2.2.2.1 X.2.2.2.2.2.2.1 X.2.2.2.2.2.2.2 H1 locs1 R.cells R.slots Q (F0 X.2.2.2.1 (pc + 3) ls (va_rf (nqv ad r.1) :: stk))) : W X.1 l X.2.1 R X.2.2.1 X.2.2.2.1 X.2.2.2.2.1 X.2.2.2.2.2.1 X.2.2.2.2.2.2.1 X.2.2.2.2.2.2.2 H locs R.cells R.slots Q (F0 X.2.2.2.1 pc ls stk0) := by
  refine va_callq hr hS (fun q _ h => h) (fun q h => h) (fun v u t H1 locs1 ht _ hv hB _ _ hS1 => ?_)
  subst hv
  exact kk H1 locs1 (by rw [← ht]; exact hB) hS1
theorem k_callVI {f : Option Rv} {F : Rv → Option Rv} {index : Nat} {y : MethodName} {cy : ByteArray} {my : Nat} {ry : Option FieldType} {n fr lo ci c : Nat} {T : u_T} {N : Nat} {fs : (Nat → Int32) → List Value} {vs stk0 : List Value} (hX : Cx l R cc own nL ret G ad X) (hM : ∀ r, f = some r → Ct PostI l G ad E y cy my ry fr lo (.ref (ad c) :: vs) M r) (hO : isO E c ci fs) (hcl : vwCl[ci]? = some (y.cls, T, N)) (hw : MLv own index y cy my ry n) (hR : fr + 1 ≤ R.frames ∧ 8 + (my + 11) + lo ≤ R.locals) (hn : vs.length = n) (hst : stk0 = vs.reverse ++ .ref (ad c) :: stk) (hcat : (stk.map fun v => v.category).sum ≤ 8) (hdg : decode cc pc = .ok (.invokevirtual index, 3)) (kk : ∀ r, KF l R nL G ad E Qc X (F r) L (pc + 3) (.int r.1 :: stk) r.2) : KF l R nL G ad E Qc X (f.bind F) L pc stk0 M := by
  intro r hr H locs ls hP hS hl
  obtain ⟨q, h1, h2⟩ := bind_some hr
  exact end_I (run_V hX (hM q h1) hO hcl hw hR hn hst hcat hdg hP hS hl) hS (fun H1 locs1 hP1 hS1 => kk q r h2 H1 locs1 ls hP1 hS1 hl)
theorem k_callVV {f : Option Rv} {F : Rv → Option Rv} {index : Nat} {y : MethodName} {cy : ByteArray} {my : Nat} {ry : Option FieldType} {n fr lo ci c : Nat} {T : u_T} {N : Nat} {fs : (Nat → Int32) → List Value} {vs stk0 : List Value} (hX : Cx l R cc own nL ret G ad X) (hM : ∀ r, f = some r → Ct PostV l G ad E y cy my ry fr lo (.ref (ad c) :: vs) M r) (hO : isO E c ci fs) (hcl : vwCl[ci]? = some (y.cls, T, N)) (hw : MLv own index y cy my ry n) (hR : fr + 1 ≤ R.frames ∧ 8 + (my + 11) + lo ≤ R.locals) (hn : vs.length = n) (hst : stk0 = vs.reverse ++ .ref (ad c) :: stk) (hcat : (stk.map fun v => v.category).sum ≤ 8) (hdg : decode cc pc = .ok (.invokevirtual index, 3)) (kk : ∀ r : Rv, KF l R nL G ad E Qc X (F r) L (pc + 3) stk r.2) : KF l R nL G ad E Qc X (f.bind F) L pc stk0 M := by
  intro r hr H locs ls hP hS hl
  obtain ⟨q, h1, h2⟩ := bind_some hr
  exact end_V (run_V hX (hM q h1) hO hcl hw hR hn hst hcat hdg hP hS hl) hS (fun H1 locs1 hP1 hS1 => kk q r h2 H1 locs1 ls hP1 hS1 hl)
theorem k_callVQ {f : Option Rv} {F : Rv → Option Rv} {index : Nat} {y : MethodName} {cy : ByteArray} {my : Nat} {ry : Option FieldType} {n fr lo ci c : Nat} {T : u_T} {N : Nat} {fs : (Nat → Int32) → List Value} {vs stk0 : List Value} (hX : Cx l R cc own nL ret G ad X) (hM : ∀ r, f = some r → Ct PostQ l G ad E y cy my ry fr lo (.ref (ad c) :: vs) M r) (hO : isO E c ci fs) (hcl : vwCl[ci]? = some (y.cls, T, N)) (hw : MLv own index y cy my ry n) (hR : fr + 1 ≤ R.frames ∧ 8 + (my + 11) + lo ≤ R.locals) (hn : vs.length = n) (hst : stk0 = vs.reverse ++ .ref (ad c) :: stk) (hcat : (stk.map fun v => v.category).sum ≤ 8) (hdg : decode cc pc = .ok (.invokevirtual index, 3)) (kk : ∀ r : Rv, KF l R nL G ad E Qc X (F r) L (pc + 3) (va_rf (nqv ad r.1) :: stk) r.2) : KF l R nL G ad E Qc X (f.bind F) L pc stk0 M := by
  intro r hr H locs ls hP hS hl
  obtain ⟨q, h1, h2⟩ := bind_some hr
  exact end_Q (run_V hX (hM q h1) hO hcl hw hR hn hst hcat hdg hP hS hl) hS (fun H1 locs1 hP1 hS1 => kk q r h2 H1 locs1 ls hP1 hS1 hl)
theorem k_callSI {f : Option Rv} {F : Rv → Option Rv} {index : Nat} {y : MethodName} {cy : ByteArray} {my : Nat} {ry : Option FieldType} {n fr lo : Nat} {vs stk0 : List Value} (hX : Cx l R cc own nL ret G ad X) (hM : ∀ r, f = some r → Ct PostI l G ad E y cy my ry fr lo vs M r) (hw : MLs own index y cy my ry n) (hR : fr + 1 ≤ R.frames ∧ 8 + (my + 11) + lo ≤ R.locals) (hn : vs.length = n) (hst : stk0 = vs.reverse ++ stk) (hcat : (stk.map fun v => v.category).sum ≤ 8) (hdg : decode cc pc = .ok (.invokestatic index, 3)) (kk : ∀ r : Rv, KF l R nL G ad E Qc X (F r) L (pc + 3) (.int r.1 :: stk) r.2) : KF l R nL G ad E Qc X (f.bind F) L pc stk0 M := by
  intro r hr H locs ls hP hS hl
  obtain ⟨q, h1, h2⟩ := bind_some hr
  exact end_I (run_S hX (hM q h1) hw hR hn hst hcat hdg hP hS hl) hS (fun H1 locs1 hP1 hS1 => kk q r h2 H1 locs1 ls hP1 hS1 hl)
/-! a reference that may be null -/
theorem k_ifnonnullQ (hX : Cx l R cc own nL ret G ad X) {A1 A2 : Option Rv} {v : Int32} {off : Int} {tgt : Nat} (hdg : decode cc pc = .ok (.ifnonnull off, 3)) (ht : (pc : Int) + off = (tgt : Int)) (kt : ¬ v = nI 0 → KF l R nL G ad E Qc X A2 L tgt stk M) (kf : v = nI 0 → KF l R nL G ad E Qc X A1 L (pc + 3) stk M) : KF l R nL G ad E Qc X (if v = nI 0 then A1 else A2) L pc (va_rf (nqv ad v) :: stk) M := by
  intro r hr H locs ls hP hS hl
  unfold nqv
  by_cases hv : v = nI 0
  · rw [if_pos hv] at hr ⊢
    exact lv_ifnonnullN hX.1 hX.2.1 hdg (kf hv r hr H locs ls hP hS hl)
  · rw [if_neg hv] at hr ⊢
    exact lv_ifnonnull hX.1 hX.2.1 hdg ht (kt hv r hr H locs ls hP hS hl)
theorem k_ifnullQ (hX : Cx l R cc own nL ret G ad X) {A1 A2 : Option Rv} {v : Int32} {off : Int} {tgt : Nat} (hdg : decode cc pc = .ok (.ifnull off, 3)) (ht : (pc : Int) + off = (tgt : Int)) (kt : v = nI 0 → KF l R nL G ad E Qc X A1 L tgt stk M) (kf : ¬ v = nI 0 → KF l R nL G ad E Qc X A2 L (pc + 3) stk M) : KF l R nL G ad E Qc X (if v = nI 0 then A1 else A2) L pc (va_rf (nqv ad v) :: stk) M := by
  intro r hr H locs ls hP hS hl
  unfold nqv
  by_cases hv : v = nI 0
  · rw [if_pos hv] at hr ⊢
    exact lv_ifnullN hX.1 hX.2.1 hdg ht (kt hv r hr H locs ls hP hS hl)
  · rw [if_neg hv] at hr ⊢
    exact lv_ifnull hX.1 hX.2.1 hdg (kf hv r hr H locs ls hP hS hl)
theorem nqv_some {r : Int32} {d : Nat} (h : maW r = some d) : isWb d = true ∧ va_rf (nqv ad r) = .ref (ad d) := by
  unfold maW at h
  split at h
  next hz =>
    cases h
    refine ⟨hz, ?_⟩
    have h0 : ¬ r = nI 0 := by
      intro h0
      subst h0
      exact absurd hz (by decide)
    unfold nqv
    rw [if_neg h0]
    rfl
  next => cases h
/-- a reference that may be null is read out of a variable, and isn't null -/
theorem k_aloadW {i : Nat} {v : Int32} {F : Nat → Option Rv} (hL : L[i]? = some (some (va_rf (nqv ad v)))) (kk : ∀ d, isWb d = true → KF l R nL G ad E Qc X (F d) (L.set i (some (.ref (ad d)))) pc stk M) : KF l R nL G ad E Qc X ((maW v).bind F) L pc stk M := by
  intro r hr H locs ls hP hS hl
  obtain ⟨d, h1, h2⟩ := bind_some hr
  obtain ⟨h3, h4⟩ := nqv_some (ad := ad) h1
  refine kk d h3 r h2 H locs ls hP hS ⟨hl.1, hl.2.1, fun j w hj => hl.2.2 j w ?_⟩
  by_cases hji : i = j
  · subst hji
    rw [List.getElem?_set_self (List.getElem?_eq_some_iff.mp hL).1] at hj
    cases hj
    rw [hL, h4]
  · rw [List.getElem?_set_ne hji] at hj
    exact hj
theorem k_aload_nQ (hX : Cx l R cc own nL ret G ad X) {k : Fin 4} {i : Nat} {v : Int32} (hi : (k : Nat) = i) (hL : L[i]? = some (some (va_rf (nqv ad v)))) (hdg : decode cc pc = .ok (.aload_n k, 1)) (kk : KF l R nL G ad E Qc X o L (pc + 1) (va_rf (nqv ad v) :: stk) M) : KF l R nL G ad E Qc X o L pc stk M := by
  refine KF.step (fun H locs ls Q hP hS hl h => ?_) kk
  cases hq : nqv ad v with
  | none =>
    rw [hq] at h hL
    exact lv_aload_nN hX.1 hX.2.1 hdg hi (hl.2.2 _ _ hL).2 h
  | some a =>
    rw [hq] at h hL
    exact lv_aload_n hX.1 hX.2.1 hdg hi (hl.2.2 _ _ hL).2 h
theorem k_aloadQ (hX : Cx l R cc own nL ret G ad X) {i : Nat} {v : Int32} (hL : L[i]? = some (some (va_rf (nqv ad v)))) (hdg : decode cc pc = .ok (.aload i, 2)) (kk : KF l R nL G ad E Qc X o L (pc + 2) (va_rf (nqv ad v) :: stk) M) : KF l R nL G ad E Qc X o L pc stk M := by
  refine KF.step (fun H locs ls Q hP hS hl h => ?_) kk
  cases hq : nqv ad v with
  | none =>
    rw [hq] at h hL
    exact lv_aloadN hX.1 hX.2.1 hdg (hl.2.2 _ _ hL).2 h
  | some a =>
    rw [hq] at h hL
    exact lv_aload hX.1 hX.2.1 hdg (hl.2.2 _ _ hL).2 h
theorem k_astore_nQ (hX : Cx l R cc own nL ret G ad X) {k : Fin 4} {i : Nat} {v : Int32} (hi : (k : Nat) = i) (hn : i < nL) (hL : L.set i (some (va_rf (nqv ad v))) = L') (hdg : decode cc pc = .ok (.astore_n k, 1)) (kk : KF l R nL G ad E Qc X o L' (pc + 1) stk M) : KF l R nL G ad E Qc X o L pc (va_rf (nqv ad v) :: stk) M := by
  intro r hr H locs ls hP hS hl
  cases hq : nqv ad v with
  | none =>
    rw [hq] at hL
    exact lv_astore_nN (lv := lprs L) hX.1 hX.2.1 hdg hi hl.has hn rfl (fun ls' hl' => kk r hr H locs ls' hP hS (hl.set rfl hL hl'))
  | some a =>
    rw [hq] at hL
    exact lv_astore_n (lv := lprs L) hX.1 hX.2.1 hdg hi hl.has hn rfl (fun ls' hl' => kk r hr H locs ls' hP hS (hl.set rfl hL hl'))
theorem k_astoreQ (hX : Cx l R cc own nL ret G ad X) {i : Nat} {v : Int32} (hn : i < nL) (hL : L.set i (some (va_rf (nqv ad v))) = L') (hdg : decode cc pc = .ok (.astore i, 2)) (kk : KF l R nL G ad E Qc X o L' (pc + 2) stk M) : KF l R nL G ad E Qc X o L pc (va_rf (nqv ad v) :: stk) M := by
  intro r hr H locs ls hP hS hl
  cases hq : nqv ad v with
  | none =>
    rw [hq] at hL
    exact lv_astoreN (lv := lprs L) hX.1 hX.2.1 hdg hl.has hn rfl (fun ls' hl' => kk r hr H locs ls' hP hS (hl.set rfl hL hl'))
  | some a =>
    rw [hq] at hL
    exact lv_astore (lv := lprs L) hX.1 hX.2.1 hdg hl.has hn rfl (fun ls' hl' => kk r hr H locs ls' hP hS (hl.set rfl hL hl'))
/-- a switch over a range: the program is a chain of questions -/
theorem k_tabIn (hX : Cx l R cc own nL ret G ad X) {dflt lo hi : Int} {offs : Array Int} {len : Nat} {x v : Int32} {off : Int} {tgt : Nat} (hv : x = v) (hdg : decode cc pc = .ok (.tableswitch dflt lo hi offs, len)) (h1 : ¬ v.toInt < lo) (h2 : ¬ hi < v.toInt) (ho : offs[(v.toInt - lo).toNat]? = some off) (ht : (pc : Int) + off = (tgt : Int)) (kk : KF l R nL G ad E Qc X o L tgt stk M) : KF l R nL G ad E Qc X o L pc (.int x :: stk) M := by
  subst hv
  exact KF.step (fun H locs ls Q hP hS hl h => lv_tableIn hX.1 hX.2.1 hdg h1 h2 ho ht h) kk
theorem k_tabOut (hX : Cx l R cc own nL ret G ad X) {dflt lo hi : Int} {offs : Array Int} {len : Nat} {x : Int32} {tgt : Nat} (hdg : decode cc pc = .ok (.tableswitch dflt lo hi offs, len)) (h : x.toInt < lo ∨ hi < x.toInt) (ht : (pc : Int) + dflt = (tgt : Int)) (kk : KF l R nL G ad E Qc X o L tgt stk M) : KF l R nL G ad E Qc X o L pc (.int x :: stk) M :=
  KF.step (fun H locs ls Q hP hS hl h' => lv_tableOut hX.1 hX.2.1 hdg h ht h') kk
theorem k_look (hX : Cx l R cc own nL ret G ad X) {dflt : Int} {ps : Array (Int × Int)} {len : Nat} {x : Int32} {off : Int} {tgt : Nat} (hdg : decode cc pc = .ok (.lookupswitch dflt ps, len)) (hp : (ps.toList.zip (ps.toList.drop 1)).all (fun (a, next) => a.1 < next.1) = true) (ho : Op.lookupswitch.offset ps.toList dflt x.toInt = off) (ht : (pc : Int) + off = (tgt : Int)) (kk : KF l R nL G ad E Qc X o L tgt stk M) : KF l R nL G ad E Qc X o L pc (.int x :: stk) M :=
  KF.step (fun H locs ls Q hP hS hl h' => lv_lookup hX.1 hX.2.1 hdg hp ho ht h') kk
theorem KF.ite {A1 A2 : Option Rv} {c : Prop} [Decidable c] (ht : c → KF l R nL G ad E Qc X A1 L pc stk M) (hf : ¬ c → KF l R nL G ad E Qc X A2 L pc stk M) : KF l R nL G ad E Qc X (if c then A1 else A2) L pc stk M := by
  by_cases h : c
  · rw [if_pos h]; exact ht h
  · rw [if_neg h]; exact hf h
end KROWS3
