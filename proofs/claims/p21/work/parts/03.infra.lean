/-! MEMORY: the scalars of all cells; a reference is the number of a cell. The functional programs (04) run over it. -/
abbrev Mem : Type := Nat → Nat → Int32
abbrev Rv : Type := Int32 × Mem
def mwr (M : Mem) (c k : Nat) (v : Int32) : Mem := fun a => if a = c then upd (M c) k v else M a
def mrd (M : Mem) (c n : Nat) (i : Int32) : Option Int32 := if i < 0 ∨ n ≤ i.toNatClampNeg then none else some (M c i.toNatClampNeg)
def mst (M : Mem) (c n : Nat) (i v : Int32) : Option Mem := if i < 0 ∨ n ≤ i.toNatClampNeg then none else some (mwr M c i.toNatClampNeg v)
def nz (v : Int32) : Int32 := vp_nar .boolean v
def nc (v : Int32) : Int32 := vp_nar .char v
def mpi (M : Mem) (c k : Nat) (v : Int32) : Option Mem := some (mwr M c k v)
def mpz (M : Mem) (c k : Nat) (v : Int32) : Option Mem := if v = nI 0 ∨ v = nI 1 then some (mwr M c k v) else none
def mrs (f : Nat → Int32) (n : Nat) (i : Int32) : Option Int32 := if i < 0 ∨ n ≤ i.toNatClampNeg then none else some (f i.toNatClampNeg)
def isSb (c : Nat) : Bool := Nat.ble 29 c && Nat.blt c 218 && Nat.beq ((c - 29) % 27) 0
def isWb (c : Nat) : Bool := Nat.ble 29 c && Nat.blt c 218 && Nat.ble 3 ((c - 29) % 27) && Nat.beq (((c - 29) % 27) % 3) 0
def mlS (v : Int32) : Option Nat := if isSb v.toNatClampNeg = true then some v.toNatClampNeg else none
def mlW (c : Nat) (w : Int32) : Option Nat := if w < 0 ∨ 8 ≤ w.toNatClampNeg then none else some (c + 3 + 3 * w.toNatClampNeg)
def maW (r : Int32) : Option Nat := if isWb r.toNatClampNeg = true then some r.toNatClampNeg else none
def mcp (M : Mem) (a na b nb : Nat) (sp dp n : Int32) : Option Mem := if sp < 0 ∨ dp < 0 ∨ n < 0 ∨ na < sp.toNatClampNeg + n.toNatClampNeg ∨ nb < dp.toNatClampNeg + n.toNatClampNeg then none else some (fun c => if c = b then va_cpy (M a) (M b) sp.toNatClampNeg dp.toNatClampNeg n.toNatClampNeg else M c)
def mrc (v : Int32) (M : Mem) : Option Rv := if nc v = v then some (v, M) else none
def mrl (v : Int32) (M : Mem) : Option Rv := if v = nI 1 then some (v, M) else none
def mrz (v : Int32) (M : Mem) : Option Rv := if v = nI 0 ∨ v = nI 1 then some (v, M) else none
def mi2c (x : Int32) : Int32 := (x.toUInt32 % 65536).toInt32
def mushr (x y : Int32) : Int32 := (x.toUInt32 >>> (y.toUInt32 &&& Int32.toUInt32 31)).toInt32
def fuelN : Nat := 1000000
def llt (j : Nat) : Int32 := ([48, 49, 62, 46, 97, 98, 99, 100, 101, 102, 97, 98, 99, 100, 101, 102] : List Int32).getD j 0
def sepf (j : Nat) : Int32 := ([32, 32, 32, 32, 32, 32, 32, 32, 32, 32, 32, 32, 32, 32, 32, 32, 32, 32, 85, 82, 38, 124] : List Int32).getD j 0
/-! THE WORLD: 218 cells at the addresses ad -/
def NC : Nat := 218
def wl (ad : Nat → Nat) (E : Nat → va_E) : va_W := (List.range NC).map (fun c => (ad c, E c))
theorem wl_at {ad : Nat → Nat} {E : Nat → va_E} {c : Nat} (h : c < NC) : (wl ad E)[c]? = some (ad c, E c) := by
  unfold wl
  rw [List.getElem?_map, List.getElem?_range h]
  rfl
theorem wl_get {ad : Nat → Nat} {E : Nat → va_E} {k : Nat} {q : Nat × va_E} (h : (wl ad E)[k]? = some q) : k < NC ∧ q = (ad k, E k) := by
  have hk : k < NC := by
    have h1 := (List.getElem?_eq_some_iff.mp h).1
    unfold wl at h1
    rw [List.length_map, List.length_range] at h1
    exact h1
  rw [wl_at hk] at h
  exact ⟨hk, (Option.some.inj h).symm⟩
theorem wl_set {ad : Nat → Nat} {E E' : Nat → va_E} {c : Nat} {e : va_E} (he : E' c = e) (ho : ∀ k, k ≠ c → E' k = E k) : (wl ad E).set c (ad c, e) = wl ad E' := by
  apply List.ext_getElem?
  intro k
  by_cases hk : k < NC
  · rw [wl_at hk]
    by_cases hc : k = c
    · subst hc
      rw [List.getElem?_set_self (by unfold wl; rw [List.length_map, List.length_range]; exact hk), he]
    · rw [List.getElem?_set_ne (fun q => hc q.symm), wl_at hk, ho k hc]
  · rw [List.getElem?_eq_none (by unfold wl; rw [List.length_set, List.length_map, List.length_range]; omega), List.getElem?_eq_none (by unfold wl; rw [List.length_map, List.length_range]; omega)]
abbrev CT : Type := Program × Env × State × MethodId × Array Value × List Frame × Method × Code
/-- the script: how long, its numbers -/
abbrev Scr : Type := Nat × (Nat → Int32)
abbrev GL : Type := va_G × (Nat → ClassId) × (Nat → Prop) × Nat × Nat × Nat × Scr
def tyl (tc : Nat → ClassId) : List (ClassId × FieldType) := [(tc 0, .int), (tc 1, .boolean), (tc 2, .char), (tc 3, .object RX4), (tc 4, .object RX5)]
def AdOK (G : GL) (ad : Nat → Nat) : Prop := (∀ i j, i < NC → j < NC → ad i = ad j → i = j) ∧ ∀ i, i < NC → G.2.2.1 (ad i)
theorem AdOK.D {G : GL} {ad : Nat → Nat} (h : AdOK G ad) (E : Nat → va_E) : va_D G.2.2.1 (wl ad E) := by
  refine ⟨fun i j p q hi hj hpq => ?_, fun k q hk => ?_⟩
  · obtain ⟨h1, rfl⟩ := wl_get hi
    obtain ⟨h2, rfl⟩ := wl_get hj
    exact h.1 i j h1 h2 hpq
  · obtain ⟨h1, rfl⟩ := wl_get hk
    exact h.2 k h1
/-! WORDS -/
def BIG : List Cond := lw_tbl.filter goodWord
theorem mem_big (i : Nat) {w : Cond} (h : lw_tbl[i]? = some w) (hg : goodWord w = true) : w ∈ BIG := List.mem_filter.mpr ⟨List.mem_of_getElem? h, hg⟩
theorem sub_big (ws : List Cond) (ps : List Nat) (hp : ws = ps.filterMap (fun i => lw_tbl[i]?)) (h : ws.all goodWord = true) : ∀ w ∈ ws, w ∈ BIG := by
  intro w hw
  have h1 := List.all_eq_true.mp h w hw
  rw [hp] at hw
  obtain ⟨i, -, hi⟩ := List.mem_filterMap.mp hw
  exact List.mem_filter.mpr ⟨List.mem_of_getElem? hi, h1⟩
theorem BIG_tbl {w : Cond} (h : w ∈ BIG) : w ∈ lw_tbl := (List.mem_filter.mp h).1
theorem good_BIG (w0 : Cond) : GoodIn (w0 :: BIG) BIG := fun w h => ⟨List.mem_cons_of_mem _ h, good_of_word (List.mem_filter.mp h).2⟩
theorem good_code {w1 : Cond} (h1 : w1 ∈ BIG) : GoodIn BIG (w1 :: BIG) := fun w h => by
  rcases List.mem_cons.mp h with rfl | h
  · exact ⟨h1, good_of_word (List.mem_filter.mp h1).2⟩
  · exact ⟨h, good_of_word (List.mem_filter.mp h).2⟩

def NWf : List (String × Nat × String × String × String × String) := [("TimeWishes$Forms", 51, "TimeWishes", "LEAF_LETTERS", "[C", "TimeWishes"), ("TimeWishes$Changes", 35, "TimeWishes$Forms", "kind", "[I", "TimeWishes"), ("TimeWishes$Scribe", 49, "TimeWishes$Forms", "kind", "[I", "TimeWishes"), ("TimeWishes", 227, "TimeWishes$Forms", "kind", "[I", "TimeWishes"), ("TimeWishes$Changes", 40, "TimeWishes$Forms", "number", "[I", "TimeWishes"), ("TimeWishes$Scribe", 46, "TimeWishes$Forms", "number", "[I", "TimeWishes"), ("TimeWishes", 230, "TimeWishes$Forms", "number", "[I", "TimeWishes"), ("TimeWishes$Scribe", 43, "TimeWishes$Forms", "size", "[I", "TimeWishes"), ("TimeWishes", 220, "TimeWishes$Forms", "size", "[I", "TimeWishes"), ("TimeWishes", 191, "TimeWishes$Forms", "signs", "[I", "TimeWishes"), ("TimeWishes", 197, "TimeWishes$Forms", "trueAtEnd", "[Z", "TimeWishes"), ("TimeWishes", 262, "TimeWishes$Forms", "top", "I", "TimeWishes"), ("TimeWishes", 184, "TimeWishes$Scribe", "letters", "[C", "TimeWishes"), ("TimeWishes", 154, "TimeWishes$Reader", "length", "I", "TimeWishes"), ("TimeWishes", 84, "TimeWishes$Wish", "there", "Z", "TimeWishes"), ("TimeWishes$State", 43, "TimeWishes$Wish", "there", "Z", "TimeWishes"), ("TimeWishes", 93, "TimeWishes$Wish", "verdict", "I", "TimeWishes"), ("TimeWishes$State", 46, "TimeWishes$Wish", "verdict", "I", "TimeWishes"), ("TimeWishes", 163, "TimeWishes$Wish", "parts", "I", "TimeWishes"), ("TimeWishes", 169, "TimeWishes$Wish", "decidedAt", "I", "TimeWishes"), ("TimeWishes", 104, "TimeWishes$Wish", "blame", "I", "TimeWishes"), ("TimeWishes", 178, "TimeWishes$Wish", "cameAt", "I", "TimeWishes"), ("TimeWishes$Scribe", 29, "TimeWishes$Wish", "sizes", "[I", "TimeWishes"), ("TimeWishes", 188, "TimeWishes$Wish", "sizes", "[I", "TimeWishes"), ("TimeWishes$Scribe", 34, "TimeWishes$Wish", "codes", "[I", "TimeWishes"), ("TimeWishes", 65, "TimeWishes$State", "ended", "Z", "TimeWishes"), ("TimeWishes", 69, "TimeWishes$State", "events", "I", "TimeWishes"), ("TimeWishes", 77, "TimeWishes$State", "wishesSoFar", "I", "TimeWishes"), ("TimeWishes", 107, "TimeWishes$State", "sets", "[I", "TimeWishes"), ("TimeWishes", 80, "TimeWishes$State", "wishes", "[LTimeWishes$Wish;", "TimeWishes"), ("TimeWishes$Forms", 71, "TimeWishes", "SEPARATORS", "[C", "TimeWishes"), ("TimeWishes$Scribe", 77, "TimeWishes", "LEAF_LETTERS", "[C", "TimeWishes"), ("TimeWishes$Scribe", 74, "TimeWishes", "SEPARATORS", "[C", "TimeWishes")]
def NWm : List (String × Nat × MethodName × String) := [("TimeWishes", 11, ⟨"TimeWishes$Forms", "<init>", "()V"⟩, "TimeWishes"), ("TimeWishes", 18, ⟨"TimeWishes$Changes", "<init>", "(LTimeWishes$Forms;)V"⟩, "TimeWishes"), ("TimeWishes", 27, ⟨"TimeWishes$Scribe", "<init>", "(LTimeWishes$Forms;)V"⟩, "TimeWishes"), ("TimeWishes", 34, ⟨"TimeWishes$Reader", "<init>", "(LTimeWishes$Forms;LTimeWishes$Changes;)V"⟩, "TimeWishes"), ("TimeWishes", 54, ⟨"TimeWishes$State", "<init>", "()V"⟩, "TimeWishes"), ("TimeWishes$State", 21, ⟨"TimeWishes$Wish", "<init>", "()V"⟩, "TimeWishes"), ("TimeWishes", 73, ⟨"TimeWishes$State", "copyFrom", "(LTimeWishes$State;)V"⟩, "TimeWishes"), ("TimeWishes$State", 39, ⟨"TimeWishes$Wish", "copyFrom", "(LTimeWishes$Wish;)V"⟩, "TimeWishes"), ("TimeWishes", 124, ⟨"TimeWishes$Forms", "release", "(I)V"⟩, "TimeWishes"), ("TimeWishes", 240, ⟨"TimeWishes$Scribe", "load", "(LTimeWishes$Wish;I)I"⟩, "TimeWishes"), ("TimeWishes$Scribe", 37, ⟨"TimeWishes$Forms", "make", "(I[III)I"⟩, "TimeWishes"), ("TimeWishes", 216, ⟨"TimeWishes$Changes", "behind", "(II)I"⟩, "TimeWishes"), ("TimeWishes$Changes", 43, ⟨"TimeWishes$Forms", "kid", "(II)I"⟩, "TimeWishes"), ("TimeWishes$Changes", 47, ⟨"TimeWishes$Forms", "order", "(II)I"⟩, "TimeWishes"), ("TimeWishes$Changes", 60, ⟨"TimeWishes$Forms", "make", "(I[III)I"⟩, "TimeWishes"), ("TimeWishes", 223, ⟨"TimeWishes$Scribe", "save", "(ILTimeWishes$Wish;I)V"⟩, "TimeWishes"), ("TimeWishes$Scribe", 52, ⟨"TimeWishes$Forms", "kid", "(II)I"⟩, "TimeWishes"), ("TimeWishes", 96, ⟨"TimeWishes$Wish", "judge", "(I)Z"⟩, "TimeWishes"), ("TimeWishes", 117, ⟨"TimeWishes$Wish", "verdictOfParts", "()I"⟩, "TimeWishes"), ("TimeWishes", 121, ⟨"TimeWishes$Reader", "findFault", "()I"⟩, "TimeWishes"), ("TimeWishes", 128, ⟨"TimeWishes$Reader", "read", "()I"⟩, "TimeWishes"), ("TimeWishes$Reader", 71, ⟨"TimeWishes$Changes", "opposite", "(I)I"⟩, "TimeWishes"), ("TimeWishes$Reader", 77, ⟨"TimeWishes$Changes", "make", "(III)I"⟩, "TimeWishes"), ("TimeWishes$Reader", 84, ⟨"TimeWishes$Changes", "two", "(III)I"⟩, "TimeWishes"), ("TimeWishes", 233, ⟨"TimeWishes$Forms", "kid", "(II)I"⟩, "TimeWishes"), ("TimeWishes", 236, ⟨"TimeWishes$Wish", "come", "(II)V"⟩, "TimeWishes"), ("TimeWishes", 135, ⟨"TimeWishes$State", "find", "(I)LTimeWishes$Wish;"⟩, "TimeWishes"), ("TimeWishes", 147, ⟨"TimeWishes$State", "howManyThere", "()I"⟩, "TimeWishes"), ("TimeWishes", 166, ⟨"TimeWishes$Wish", "partsThatAre", "(I)I"⟩, "TimeWishes"), ("TimeWishes", 175, ⟨"TimeWishes$Wish", "sizeOfParts", "()I"⟩, "TimeWishes"), ("TimeWishes", 213, ⟨"TimeWishes$State", "howMany", "(I)I"⟩, "TimeWishes"), ("TimeWishes", 150, ⟨"TimeWishes$Reader", "append", "(C)Z"⟩, "TimeWishes"), ("TimeWishes", 181, ⟨"TimeWishes$Scribe", "spell", "(LTimeWishes$Wish;I)I"⟩, "TimeWishes"), ("TimeWishes", 207, ⟨"TimeWishes$State", "isOpen", "(I)Z"⟩, "TimeWishes"), ("TimeWishes", 210, ⟨"TimeWishes$State", "rankOfOpen", "(I)I"⟩, "TimeWishes"), ("TimeWishes$State", 49, ⟨"TimeWishes$Wish", "sizeOfParts", "()I"⟩, "TimeWishes"), ("TimeWishes", 243, ⟨"TimeWishes$Changes", "begin", "(I)V"⟩, "TimeWishes"), ("TimeWishes", 246, ⟨"TimeWishes$Changes", "put", "(I)V"⟩, "TimeWishes"), ("TimeWishes", 249, ⟨"TimeWishes$Changes", "done", "()I"⟩, "TimeWishes"), ("TimeWishes", 143, ⟨"TimeWishes$Changes", "two", "(III)I"⟩, "TimeWishes")]
def Nst (U : State) : Prop := (∀ q ∈ NWf, va_Nw (.fieldLinkNest q.1 q.2.1 q.2.2.1 q.2.2.2.1 q.2.2.2.2.1 q.2.2.2.2.2) U) ∧ ∀ q ∈ NWm, va_Nw (.methodLinkNest q.1 q.2.1 q.2.2.1 q.2.2.2) U
theorem Nst.warm {s U : State} (hW : s.WarmedH U.vm) (h : Nst s) : Nst U := ⟨fun q hq => (h.1 q hq).warmF hW, fun q hq => (h.2 q hq).warmM hW⟩
theorem Nst.same {u U : State} (hv : u.vm = U.vm) (h : Nst u) : Nst U := ⟨fun q hq => va_Nw.same rfl hv (h.1 q hq), fun q hq => va_Nw.same rfl hv (h.2 q hq)⟩
/-- the law's script is there -/
def Scp (G : GL) (U : State) (H : Heap) : Prop := va_X G.2.2.2.2.2.1 G.2.2.2.2.2.2.1 G.2.2.2.2.2.2.2 U H ∧ ¬ G.2.2.1 G.2.2.2.2.2.1
theorem Scp.lt {G : GL} {U : State} {H : Heap} (h : Scp G U H) : G.2.2.2.2.2.1 < H.size := by
  obtain ⟨⟨scr, h1, -⟩, -⟩ := h
  exact (Array.getElem?_eq_some_iff.mp h1).1
theorem Scp.kept {G : GL} {U : State} {H H1 : Heap} (h : Scp G U H) (hq : ∀ a : Nat, a < H.size → ¬ G.2.2.1 a → H1[a]? = H[a]?) : Scp G U H1 := ⟨h.1.kept (hq _ h.lt h.2), h.2⟩
theorem Scp.moved {G : GL} {u U : State} {H : Heap} (hvm : u.vm.Alike U.vm) (h : Scp G u H) : Scp G U H := ⟨h.1.moved hvm, h.2⟩
def Stt (G : GL) (U : State) (H : Heap) : Prop := (va_Z RX6 "LEAF_LETTERS" "[C" (.ref G.2.2.2.1) G.2.2.1 U H ∧ va_T .char G.2.2.2.1 16 (fun j => .int (llt j)) G.2.2.1 U H ∧ Scp G U H) ∧ va_Z RX6 "SEPARATORS" "[C" (.ref G.2.2.2.2.1) G.2.2.1 U H ∧ va_T .char G.2.2.2.2.1 22 (fun j => .int (sepf j)) G.2.2.1 U H
theorem Stt.kept {G : GL} {U : State} {H H1 : Heap} (h : Stt G U H) (hq : ∀ a : Nat, a < H.size → ¬ G.2.2.1 a → H1[a]? = H[a]?) : Stt G U H1 := ⟨⟨h.1.1.kept hq, h.1.2.1.kept hq, h.1.2.2.kept hq⟩, h.2.1.kept hq, h.2.2.kept hq⟩
theorem Stt.moved {G : GL} {u U : State} {H : Heap} (hvm : u.vm.Alike U.vm) (h : Stt G u H) : Stt G U H := ⟨⟨h.1.1.moved hvm, h.1.2.1.moved hvm, h.1.2.2.moved hvm⟩, h.2.1.moved hvm, h.2.2.moved hvm⟩
/-- what holds of the tables at a method's start -/
def Tb (G : GL) (U : State) (H : Heap) : Prop := va_K G.1 vwCl (tyl G.2.1) U ∧ Nst U ∧ Stt G U H
def Pw (G : GL) (ad : Nat → Nat) (E : Mem → Nat → va_E) (M : Mem) (U : State) : Prop := va_P G.1 vwCl (wl ad (E M)) U.heap ∧ Tb G U U.heap
theorem Pw.blind {G : GL} {ad : Nat → Nat} {E : Mem → Nat → va_E} {M : Mem} (vs : List Value) : FrameBlind (va_Pc vs (Pw G ad E M)) := by
  intro a U g mk q
  obtain ⟨q0, qP, qK, qN, qS⟩ := q
  exact ⟨q0, qP, va_K.moved (u := U) (U := U.calling g mk a) (Vm.Alike.refl U.vm) qK, Nst.same (u := U) (U := U.calling g mk a) rfl qN, Stt.moved (u := U) (U := U.calling g mk a) (Vm.Alike.refl U.vm) qS⟩
/-! LOCALS -/
def lvh (ls : Array Slot) (nL : Nat) (L : List (Option Value)) : Prop := ls.size = nL ∧ lv_wf ls ∧ ∀ (i : Nat) (v : Value), L[i]? = some (some v) → v.category = 1 ∧ ls[i]? = some (.val v)
def lprs (L : List (Option Value)) : List (Nat × Value) := (List.range L.length).filterMap (fun j => (L[j]?.join).map (fun v => (j, v)))
theorem mem_lprs {L : List (Option Value)} {i : Nat} {v : Value} : (i, v) ∈ lprs L ↔ L[i]? = some (some v) := by
  unfold lprs
  rw [List.mem_filterMap]
  constructor
  · rintro ⟨j, -, hj⟩
    cases h : L[j]? with
    | none => rw [h] at hj; cases hj
    | some w =>
      cases w with
      | none => rw [h] at hj; cases hj
      | some w =>
        rw [h] at hj
        cases hj
        exact h
  · intro h
    refine ⟨i, List.mem_range.mpr (List.getElem?_eq_some_iff.mp h).1, ?_⟩
    rw [h]
    rfl
theorem lvh.has {ls : Array Slot} {nL : Nat} {L : List (Option Value)} (h : lvh ls nL L) : lv_has ls nL (lprs L) := ⟨h.1, h.2.1, fun q hq => (h.2.2 q.1 q.2 (mem_lprs.mp hq)).2⟩
theorem lvh.set {ls ls' : Array Slot} {nL i : Nat} {L L' : List (Option Value)} {v : Value} (h : lvh ls nL L) (hv : v.category = 1) (hL : L.set i (some v) = L') (h' : lv_has ls' nL ((i, v) :: (lprs L).filter (fun q => !(q.1 == i) && !(q.1 + 1 == i && q.2.category == 2)))) : lvh ls' nL L' := by
  subst hL
  refine ⟨h'.1, h'.2.1, fun j w hj => ?_⟩
  by_cases hji : i = j
  · subst hji
    have hl : i < L.length := by
      have := (List.getElem?_eq_some_iff.mp hj).1
      rwa [List.length_set] at this
    rw [List.getElem?_set_self hl] at hj
    cases hj
    exact ⟨hv, h'.2.2 (i, v) List.mem_cons_self⟩
  · rw [List.getElem?_set_ne hji] at hj
    obtain ⟨hc, -⟩ := h.2.2 j w hj
    refine ⟨hc, h'.2.2 (j, w) (List.mem_cons_of_mem _ (List.mem_filter.mpr ⟨mem_lprs.mpr hj, ?_⟩))⟩
    have hc2 : (w.category == 2) = false := by rw [hc]; rfl
    simp [hc2, Ne.symm hji]
theorem lv_args1 : ∀ (vs : List Value) (k : Nat), (∀ v ∈ vs, v.category = 1) → ∀ (i : Nat) (v : Value), vs[i]? = some v → (k + i, v) ∈ lv_args k vs := by
  intro vs
  induction vs with
  | nil => intro k _ i v h; simp at h
  | cons a l ih =>
    intro k hc i v h
    have ha : a.category = 1 := hc a List.mem_cons_self
    have hne : ¬ a.category = 2 := by omega
    unfold lv_args
    rw [if_neg hne]
    cases i with
    | zero => simp at h; subst h; exact List.mem_cons_self
    | succ i =>
      simp at h
      have := ih (k + 1) (fun v hv => hc v (List.mem_cons_of_mem _ hv)) i v h
      rw [show k + (i + 1) = k + 1 + i by omega]
      exact List.mem_cons_of_mem _ this
theorem lvh_entry {ls : Array Slot} {nL : Nat} {vs : List Value} {L : List (Option Value)} (h : lv_has ls nL (lv_args 0 vs)) (hc : ∀ v ∈ vs, v.category = 1) (hL : ∀ (i : Nat) (v : Value), L[i]? = some (some v) → vs[i]? = some v) : lvh ls nL L := by
  refine ⟨h.1, h.2.1, fun i v hi => ?_⟩
  have h1 := hL i v hi
  refine ⟨hc v (List.mem_of_getElem? h1), ?_⟩
  have h2 := lv_args1 vs 0 hc i v h1
  rw [Nat.zero_add] at h2
  exact h.2.2 (i, v) h2
/-! THE ROWS: KF o L pc stk M: if the program answers o = some r from here, the machine at pc comes to r's end -/
def Cx (l : Launch) (R : Room) (cc : ByteArray) (own : String) (nL : Nat) (ret : Option FieldType) (G : GL) (ad : Nat → Nat) (X : CT) : Prop :=
  X.1.tables.exec = Jvm.exec ∧ X.2.2.2.2.2.2.2.code = cc ∧ X.2.2.2.2.2.2.2.maxLocals = nL ∧ X.2.2.1.vm.findClass own = some X.2.2.2.1.cls ∧ (∀ w ∈ BIG, w.before X.2.2.2.2.1 X.2.2.1 = true) ∧ Tb G X.2.2.1 X.2.2.1.heap ∧ AdOK G ad ∧ X.2.2.2.2.2.2.1.sig.returnType = ret ∧ X.2.2.2.2.2.2.1.locks = false
def KF (l : Launch) (R : Room) (nL : Nat) (G : GL) (ad : Nat → Nat) (E : Mem → Nat → va_E) (Qc : CT → Rv → State → Prop) (X : CT) (o : Option Rv) (L : List (Option Value)) (pc : Nat) (stk : List Value) (M : Mem) : Prop :=
  ∀ (r : Rv), o = some r → ∀ (H : Heap) (locs : List Loc) (ls : Array Slot), va_P G.1 vwCl (wl ad (E M)) H → va_S G.2.2.1 X.2.2.1.heap H locs → lvh ls nL L → W X.1 l X.2.1 R X.2.2.1 X.2.2.2.1 X.2.2.2.2.1 X.2.2.2.2.2.1 X.2.2.2.2.2.2.1 X.2.2.2.2.2.2.2 H locs R.cells R.slots (Qc X r) (F0 X.2.2.2.1 pc ls stk)
section KROWS
variable {l : Launch} {R : Room} {nL : Nat} {G : GL} {ad : Nat → Nat} {E : Mem → Nat → va_E} {Qc : CT → Rv → State → Prop} {X : CT} {o : Option Rv} {L L' : List (Option Value)} {pc : Nat} {stk : List Value} {M : Mem} {cc : ByteArray} {own : String} {ret : Option FieldType}
theorem KF.step {pc' : Nat} {stk' : List Value} (h : ∀ (H : Heap) (locs : List Loc) (ls : Array Slot) (Q : State → Prop), va_P G.1 vwCl (wl ad (E M)) H → va_S G.2.2.1 X.2.2.1.heap H locs → lvh ls nL L → W X.1 l X.2.1 R X.2.2.1 X.2.2.2.1 X.2.2.2.2.1 X.2.2.2.2.2.1 X.2.2.2.2.2.2.1 X.2.2.2.2.2.2.2 H locs R.cells R.slots Q (F0 X.2.2.2.1 pc' ls stk') → W X.1 l X.2.1 R X.2.2.1 X.2.2.2.1 X.2.2.2.2.1 X.2.2.2.2.2.1 X.2.2.2.2.2.2.1 X.2.2.2.2.2.2.2 H locs R.cells R.slots Q (F0 X.2.2.2.1 pc ls stk))
    (kk : KF l R nL G ad E Qc X o L pc' stk' M) : KF l R nL G ad E Qc X o L pc stk M := fun r hr H locs ls hP hS hl => h H locs ls _ hP hS hl (kk r hr H locs ls hP hS hl)
/-- another list of locals that is held, too (fewer, or the same cell under another name) -/
theorem KF.locals (h : ∀ (i : Nat) (v : Value), L'[i]? = some (some v) → L[i]? = some (some v)) (kk : KF l R nL G ad E Qc X o L' pc stk M) : KF l R nL G ad E Qc X o L pc stk M := fun r hr H locs ls hP hS hl => kk r hr H locs ls hP hS ⟨hl.1, hl.2.1, fun i v hi => hl.2.2 i v (h i v hi)⟩
theorem KF.none' : KF l R nL G ad E Qc X none L pc stk M := fun r hr => by cases hr

theorem k_iconst (hX : Cx l R cc own nL ret G ad X) {n : Int} {v : Int32} (hv : Int32.ofInt n = v) (hdg : decode cc pc = .ok (.iconst n, 1)) (kk : KF l R nL G ad E Qc X o L (pc + 1) (.int v :: stk) M) : KF l R nL G ad E Qc X o L pc stk M := KF.step (fun H locs ls Q hP hS hl h => lv_iconst hX.1 hX.2.1 hdg hv h) kk
theorem k_bipush (hX : Cx l R cc own nL ret G ad X) {n : Int} {v : Int32} (hv : (Int8.ofInt n).toInt32 = v) (hdg : decode cc pc = .ok (.bipush n, 2)) (kk : KF l R nL G ad E Qc X o L (pc + 2) (.int v :: stk) M) : KF l R nL G ad E Qc X o L pc stk M := KF.step (fun H locs ls Q hP hS hl h => lv_bipush hX.1 hX.2.1 hdg hv h) kk
theorem k_sipush (hX : Cx l R cc own nL ret G ad X) {n : Int} {v : Int32} (hv : (Int16.ofInt n).toInt32 = v) (hdg : decode cc pc = .ok (.sipush n, 3)) (kk : KF l R nL G ad E Qc X o L (pc + 3) (.int v :: stk) M) : KF l R nL G ad E Qc X o L pc stk M := KF.step (fun H locs ls Q hP hS hl h => lv_sipush hX.1 hX.2.1 hdg hv h) kk
theorem k_ldc (hX : Cx l R cc own nL ret G ad X) {v : Int32} {index : Nat} (hw : Cond.constant own index v ∈ BIG) (hdg : decode cc pc = .ok (.ldc index, 2)) (kk : KF l R nL G ad E Qc X o L (pc + 2) (.int v :: stk) M) : KF l R nL G ad E Qc X o L pc stk M := KF.step (fun H locs ls Q hP hS hl h => lv_ldc hX.1 hX.2.1 hX.2.2.2.1 (hX.2.2.2.2.1 _ hw) hdg h) kk
theorem k_iload_n (hX : Cx l R cc own nL ret G ad X) {k : Fin 4} {i : Nat} {x : Int32} (hi : (k : Nat) = i) (hL : L[i]? = some (some (.int x))) (hdg : decode cc pc = .ok (.iload_n k, 1)) (kk : KF l R nL G ad E Qc X o L (pc + 1) (.int x :: stk) M) : KF l R nL G ad E Qc X o L pc stk M := KF.step (fun H locs ls Q hP hS hl h => lv_iload_n hX.1 hX.2.1 hdg hi (hl.2.2 _ _ hL).2 h) kk
theorem k_iload (hX : Cx l R cc own nL ret G ad X) {i : Nat} {x : Int32} (hL : L[i]? = some (some (.int x))) (hdg : decode cc pc = .ok (.iload i, 2)) (kk : KF l R nL G ad E Qc X o L (pc + 2) (.int x :: stk) M) : KF l R nL G ad E Qc X o L pc stk M := KF.step (fun H locs ls Q hP hS hl h => lv_iload hX.1 hX.2.1 hdg (hl.2.2 _ _ hL).2 h) kk
theorem k_aload_n (hX : Cx l R cc own nL ret G ad X) {k : Fin 4} {i a : Nat} (hi : (k : Nat) = i) (hL : L[i]? = some (some (.ref a))) (hdg : decode cc pc = .ok (.aload_n k, 1)) (kk : KF l R nL G ad E Qc X o L (pc + 1) (.ref a :: stk) M) : KF l R nL G ad E Qc X o L pc stk M := KF.step (fun H locs ls Q hP hS hl h => lv_aload_n hX.1 hX.2.1 hdg hi (hl.2.2 _ _ hL).2 h) kk
theorem k_aload (hX : Cx l R cc own nL ret G ad X) {i a : Nat} (hL : L[i]? = some (some (.ref a))) (hdg : decode cc pc = .ok (.aload i, 2)) (kk : KF l R nL G ad E Qc X o L (pc + 2) (.ref a :: stk) M) : KF l R nL G ad E Qc X o L pc stk M := KF.step (fun H locs ls Q hP hS hl h => lv_aload hX.1 hX.2.1 hdg (hl.2.2 _ _ hL).2 h) kk
theorem k_iadd (hX : Cx l R cc own nL ret G ad X) {x y : Int32} (hdg : decode cc pc = .ok (.iadd, 1)) (kk : KF l R nL G ad E Qc X o L (pc + 1) (.int (x + y) :: stk) M) : KF l R nL G ad E Qc X o L pc (.int y :: .int x :: stk) M := KF.step (fun H locs ls Q hP hS hl h => lv_iadd hX.1 hX.2.1 hdg h) kk
theorem k_isub (hX : Cx l R cc own nL ret G ad X) {x y : Int32} (hdg : decode cc pc = .ok (.isub, 1)) (kk : KF l R nL G ad E Qc X o L (pc + 1) (.int (x - y) :: stk) M) : KF l R nL G ad E Qc X o L pc (.int y :: .int x :: stk) M := KF.step (fun H locs ls Q hP hS hl h => lv_isub hX.1 hX.2.1 hdg h) kk
theorem k_imul (hX : Cx l R cc own nL ret G ad X) {x y : Int32} (hdg : decode cc pc = .ok (.imul, 1)) (kk : KF l R nL G ad E Qc X o L (pc + 1) (.int (x * y) :: stk) M) : KF l R nL G ad E Qc X o L pc (.int y :: .int x :: stk) M := KF.step (fun H locs ls Q hP hS hl h => lv_imul hX.1 hX.2.1 hdg h) kk
theorem k_iand (hX : Cx l R cc own nL ret G ad X) {x y : Int32} (hdg : decode cc pc = .ok (.iand, 1)) (kk : KF l R nL G ad E Qc X o L (pc + 1) (.int (x &&& y) :: stk) M) : KF l R nL G ad E Qc X o L pc (.int y :: .int x :: stk) M := KF.step (fun H locs ls Q hP hS hl h => lv_iand hX.1 hX.2.1 hdg h) kk
theorem k_ior (hX : Cx l R cc own nL ret G ad X) {x y : Int32} (hdg : decode cc pc = .ok (.ior, 1)) (kk : KF l R nL G ad E Qc X o L (pc + 1) (.int (x ||| y) :: stk) M) : KF l R nL G ad E Qc X o L pc (.int y :: .int x :: stk) M := KF.step (fun H locs ls Q hP hS hl h => lv_ior hX.1 hX.2.1 hdg h) kk
theorem k_ixor (hX : Cx l R cc own nL ret G ad X) {x y : Int32} (hdg : decode cc pc = .ok (.ixor, 1)) (kk : KF l R nL G ad E Qc X o L (pc + 1) (.int (x ^^^ y) :: stk) M) : KF l R nL G ad E Qc X o L pc (.int y :: .int x :: stk) M := KF.step (fun H locs ls Q hP hS hl h => lv_ixor hX.1 hX.2.1 hdg h) kk
theorem k_ishl (hX : Cx l R cc own nL ret G ad X) {x y : Int32} (hdg : decode cc pc = .ok (.ishl, 1)) (kk : KF l R nL G ad E Qc X o L (pc + 1) (.int (x <<< (y &&& nI 31)) :: stk) M) : KF l R nL G ad E Qc X o L pc (.int y :: .int x :: stk) M := KF.step (fun H locs ls Q hP hS hl h => lv_ishl hX.1 hX.2.1 hdg h) kk
theorem k_ishr (hX : Cx l R cc own nL ret G ad X) {x y : Int32} (hdg : decode cc pc = .ok (.ishr, 1)) (kk : KF l R nL G ad E Qc X o L (pc + 1) (.int (x >>> (y &&& nI 31)) :: stk) M) : KF l R nL G ad E Qc X o L pc (.int y :: .int x :: stk) M := KF.step (fun H locs ls Q hP hS hl h => lv_ishr hX.1 hX.2.1 hdg h) kk
theorem k_irem (hX : Cx l R cc own nL ret G ad X) {x y : Int32} (hne : ¬ y = 0) (hdg : decode cc pc = .ok (.irem, 1)) (kk : KF l R nL G ad E Qc X o L (pc + 1) (.int (x - x / y * y) :: stk) M) : KF l R nL G ad E Qc X o L pc (.int y :: .int x :: stk) M := KF.step (fun H locs ls Q hP hS hl h => lv_irem hX.1 hX.2.1 hdg hne h) kk
theorem k_iushr (hX : Cx l R cc own nL ret G ad X) {x y : Int32} (hdg : decode cc pc = .ok (.iushr, 1)) (kk : KF l R nL G ad E Qc X o L (pc + 1) (.int (mushr x y) :: stk) M) : KF l R nL G ad E Qc X o L pc (.int y :: .int x :: stk) M := KF.step (fun H locs ls Q hP hS hl h => lv_iushr hX.1 hX.2.1 hdg rfl h) kk
theorem k_i2c (hX : Cx l R cc own nL ret G ad X) {x : Int32} (hdg : decode cc pc = .ok (.i2c, 1)) (kk : KF l R nL G ad E Qc X o L (pc + 1) (.int (mi2c x) :: stk) M) : KF l R nL G ad E Qc X o L pc (.int x :: stk) M := KF.step (fun H locs ls Q hP hS hl h => lv_i2c hX.1 hX.2.1 hdg rfl h) kk
theorem k_dup (hX : Cx l R cc own nL ret G ad X) {va : Value} (hva : va.category = 1) (hdg : decode cc pc = .ok (.dup, 1)) (kk : KF l R nL G ad E Qc X o L (pc + 1) (va :: va :: stk) M) : KF l R nL G ad E Qc X o L pc (va :: stk) M := KF.step (fun H locs ls Q hP hS hl h => lv_dup hX.1 hX.2.1 hdg hva h) kk
theorem k_dup2 (hX : Cx l R cc own nL ret G ad X) {va vb : Value} (hva : va.category = 1) (hvb : vb.category = 1) (hdg : decode cc pc = .ok (.dup2, 1)) (kk : KF l R nL G ad E Qc X o L (pc + 1) (va :: vb :: va :: vb :: stk) M) : KF l R nL G ad E Qc X o L pc (va :: vb :: stk) M := KF.step (fun H locs ls Q hP hS hl h => lv_dup2_11 hX.1 hX.2.1 hdg hva hvb h) kk
theorem k_pop (hX : Cx l R cc own nL ret G ad X) {va : Value} (hva : va.category = 1) (hdg : decode cc pc = .ok (.pop, 1)) (kk : KF l R nL G ad E Qc X o L (pc + 1) stk M) : KF l R nL G ad E Qc X o L pc (va :: stk) M := KF.step (fun H locs ls Q hP hS hl h => lv_pop hX.1 hX.2.1 hdg hva h) kk
theorem k_null (hX : Cx l R cc own nL ret G ad X) (hdg : decode cc pc = .ok (.aconst_null, 1)) (kk : KF l R nL G ad E Qc X o L (pc + 1) (.null :: stk) M) : KF l R nL G ad E Qc X o L pc stk M := KF.step (fun H locs ls Q hP hS hl h => lv_null hX.1 hX.2.1 hdg h) kk
theorem k_goto (hX : Cx l R cc own nL ret G ad X) {off : Int} {tgt : Nat} (hdg : decode cc pc = .ok (.goto off, 3)) (ht : (pc : Int) + off = (tgt : Int)) (kk : KF l R nL G ad E Qc X o L tgt stk M) : KF l R nL G ad E Qc X o L pc stk M := KF.step (fun H locs ls Q hP hS hl h => lv_goto hX.1 hX.2.1 hdg ht h) kk
theorem k_istore_n (hX : Cx l R cc own nL ret G ad X) {k : Fin 4} {i : Nat} {x : Int32} (hi : (k : Nat) = i) (hn : i < nL) (hL : L.set i (some (.int x)) = L') (hdg : decode cc pc = .ok (.istore_n k, 1)) (kk : KF l R nL G ad E Qc X o L' (pc + 1) stk M) : KF l R nL G ad E Qc X o L pc (.int x :: stk) M := fun r hr H locs ls hP hS hl => lv_istore_n (lv := lprs L) hX.1 hX.2.1 hdg hi hl.has hn rfl (fun ls' hl' => kk r hr H locs ls' hP hS (hl.set rfl hL hl'))
theorem k_istore (hX : Cx l R cc own nL ret G ad X) {i : Nat} {x : Int32} (hn : i < nL) (hL : L.set i (some (.int x)) = L') (hdg : decode cc pc = .ok (.istore i, 2)) (kk : KF l R nL G ad E Qc X o L' (pc + 2) stk M) : KF l R nL G ad E Qc X o L pc (.int x :: stk) M := fun r hr H locs ls hP hS hl => lv_istore (lv := lprs L) hX.1 hX.2.1 hdg hl.has hn rfl (fun ls' hl' => kk r hr H locs ls' hP hS (hl.set rfl hL hl'))
theorem k_astore_n (hX : Cx l R cc own nL ret G ad X) {k : Fin 4} {i : Nat} {x : Nat} (hi : (k : Nat) = i) (hn : i < nL) (hL : L.set i (some (.ref x)) = L') (hdg : decode cc pc = .ok (.astore_n k, 1)) (kk : KF l R nL G ad E Qc X o L' (pc + 1) stk M) : KF l R nL G ad E Qc X o L pc (.ref x :: stk) M := fun r hr H locs ls hP hS hl => lv_astore_n (lv := lprs L) hX.1 hX.2.1 hdg hi hl.has hn rfl (fun ls' hl' => kk r hr H locs ls' hP hS (hl.set rfl hL hl'))
theorem k_astore (hX : Cx l R cc own nL ret G ad X) {i : Nat} {x : Nat} (hn : i < nL) (hL : L.set i (some (.ref x)) = L') (hdg : decode cc pc = .ok (.astore i, 2)) (kk : KF l R nL G ad E Qc X o L' (pc + 2) stk M) : KF l R nL G ad E Qc X o L pc (.ref x :: stk) M := fun r hr H locs ls hP hS hl => lv_astore (lv := lprs L) hX.1 hX.2.1 hdg hl.has hn rfl (fun ls' hl' => kk r hr H locs ls' hP hS (hl.set rfl hL hl'))
theorem k_iinc (hX : Cx l R cc own nL ret G ad X) {i : Nat} {n : Int} {x v : Int32} (hx : L[i]? = some (some (.int x))) (hv : x + Int32.ofInt n = v) (hn : i < nL) (hL : L.set i (some (.int v)) = L') (hdg : decode cc pc = .ok (.iinc i n, 3)) (kk : KF l R nL G ad E Qc X o L' (pc + 3) stk M) : KF l R nL G ad E Qc X o L pc stk M := fun r hr H locs ls hP hS hl => by
  obtain ⟨k, hk⟩ := List.getElem?_of_mem (mem_lprs.mpr hx)
  exact lv_iinc (lv := lprs L) hX.1 hX.2.1 hdg hl.has hk hv hn rfl (fun ls' hl' => kk r hr H locs ls' hP hS (hl.set rfl hL hl'))
theorem k_if_eq (hX : Cx l R cc own nL ret G ad X) {A1 A2 : Option Rv} {x : Int32} {off : Int} {tgt : Nat} (hdg : decode cc pc = .ok (.ifCond .eq off, 3)) (ht : (pc : Int) + off = (tgt : Int)) (kt : x = nI 0 → KF l R nL G ad E Qc X A1 L tgt stk M) (kf : ¬ x = nI 0 → KF l R nL G ad E Qc X A2 L (pc + 3) stk M) : KF l R nL G ad E Qc X (if x = nI 0 then A1 else A2) L pc (.int x :: stk) M := fun r hr H locs ls hP hS hl => lv_if_eq hX.1 hX.2.1 hdg ht (fun (c : x = nI 0) => kt c r (by rw [if_pos c] at hr; exact hr) H locs ls hP hS hl) (fun (c : ¬ x = nI 0) => kf c r (by rw [if_neg c] at hr; exact hr) H locs ls hP hS hl)
theorem k_icmp_eq (hX : Cx l R cc own nL ret G ad X) {A1 A2 : Option Rv} {x y : Int32} {off : Int} {tgt : Nat} (hdg : decode cc pc = .ok (.if_icmp .eq off, 3)) (ht : (pc : Int) + off = (tgt : Int)) (kt : x = y → KF l R nL G ad E Qc X A1 L tgt stk M) (kf : ¬ x = y → KF l R nL G ad E Qc X A2 L (pc + 3) stk M) : KF l R nL G ad E Qc X (if x = y then A1 else A2) L pc (.int y :: .int x :: stk) M := fun r hr H locs ls hP hS hl => lv_icmp_eq hX.1 hX.2.1 hdg ht (fun (c : x = y) => kt c r (by rw [if_pos c] at hr; exact hr) H locs ls hP hS hl) (fun (c : ¬ x = y) => kf c r (by rw [if_neg c] at hr; exact hr) H locs ls hP hS hl)
theorem k_if_ne (hX : Cx l R cc own nL ret G ad X) {A1 A2 : Option Rv} {x : Int32} {off : Int} {tgt : Nat} (hdg : decode cc pc = .ok (.ifCond .ne off, 3)) (ht : (pc : Int) + off = (tgt : Int)) (kt : ¬ x = nI 0 → KF l R nL G ad E Qc X A2 L tgt stk M) (kf : x = nI 0 → KF l R nL G ad E Qc X A1 L (pc + 3) stk M) : KF l R nL G ad E Qc X (if x = nI 0 then A1 else A2) L pc (.int x :: stk) M := fun r hr H locs ls hP hS hl => lv_if_ne hX.1 hX.2.1 hdg ht (fun (c : ¬ x = nI 0) => kt c r (by rw [if_neg c] at hr; exact hr) H locs ls hP hS hl) (fun (c : x = nI 0) => kf c r (by rw [if_pos c] at hr; exact hr) H locs ls hP hS hl)
theorem k_icmp_ne (hX : Cx l R cc own nL ret G ad X) {A1 A2 : Option Rv} {x y : Int32} {off : Int} {tgt : Nat} (hdg : decode cc pc = .ok (.if_icmp .ne off, 3)) (ht : (pc : Int) + off = (tgt : Int)) (kt : ¬ x = y → KF l R nL G ad E Qc X A2 L tgt stk M) (kf : x = y → KF l R nL G ad E Qc X A1 L (pc + 3) stk M) : KF l R nL G ad E Qc X (if x = y then A1 else A2) L pc (.int y :: .int x :: stk) M := fun r hr H locs ls hP hS hl => lv_icmp_ne hX.1 hX.2.1 hdg ht (fun (c : ¬ x = y) => kt c r (by rw [if_neg c] at hr; exact hr) H locs ls hP hS hl) (fun (c : x = y) => kf c r (by rw [if_pos c] at hr; exact hr) H locs ls hP hS hl)
theorem k_if_lt (hX : Cx l R cc own nL ret G ad X) {A1 A2 : Option Rv} {x : Int32} {off : Int} {tgt : Nat} (hdg : decode cc pc = .ok (.ifCond .lt off, 3)) (ht : (pc : Int) + off = (tgt : Int)) (kt : x < nI 0 → KF l R nL G ad E Qc X A1 L tgt stk M) (kf : ¬ x < nI 0 → KF l R nL G ad E Qc X A2 L (pc + 3) stk M) : KF l R nL G ad E Qc X (if x < nI 0 then A1 else A2) L pc (.int x :: stk) M := fun r hr H locs ls hP hS hl => lv_if_lt hX.1 hX.2.1 hdg ht (fun (c : x < nI 0) => kt c r (by rw [if_pos c] at hr; exact hr) H locs ls hP hS hl) (fun (c : ¬ x < nI 0) => kf c r (by rw [if_neg c] at hr; exact hr) H locs ls hP hS hl)
theorem k_icmp_lt (hX : Cx l R cc own nL ret G ad X) {A1 A2 : Option Rv} {x y : Int32} {off : Int} {tgt : Nat} (hdg : decode cc pc = .ok (.if_icmp .lt off, 3)) (ht : (pc : Int) + off = (tgt : Int)) (kt : x < y → KF l R nL G ad E Qc X A1 L tgt stk M) (kf : ¬ x < y → KF l R nL G ad E Qc X A2 L (pc + 3) stk M) : KF l R nL G ad E Qc X (if x < y then A1 else A2) L pc (.int y :: .int x :: stk) M := fun r hr H locs ls hP hS hl => lv_icmp_lt hX.1 hX.2.1 hdg ht (fun (c : x < y) => kt c r (by rw [if_pos c] at hr; exact hr) H locs ls hP hS hl) (fun (c : ¬ x < y) => kf c r (by rw [if_neg c] at hr; exact hr) H locs ls hP hS hl)
theorem k_if_ge (hX : Cx l R cc own nL ret G ad X) {A1 A2 : Option Rv} {x : Int32} {off : Int} {tgt : Nat} (hdg : decode cc pc = .ok (.ifCond .ge off, 3)) (ht : (pc : Int) + off = (tgt : Int)) (kt : ¬ x < nI 0 → KF l R nL G ad E Qc X A2 L tgt stk M) (kf : x < nI 0 → KF l R nL G ad E Qc X A1 L (pc + 3) stk M) : KF l R nL G ad E Qc X (if x < nI 0 then A1 else A2) L pc (.int x :: stk) M := fun r hr H locs ls hP hS hl => lv_if_ge hX.1 hX.2.1 hdg ht (fun (c : nI 0 ≤ x) => kt (Int32.not_lt.mpr c) r (by rw [if_neg (Int32.not_lt.mpr c)] at hr; exact hr) H locs ls hP hS hl) (fun (c : ¬ nI 0 ≤ x) => kf (Int32.not_le.mp c) r (by rw [if_pos (Int32.not_le.mp c)] at hr; exact hr) H locs ls hP hS hl)
theorem k_icmp_ge (hX : Cx l R cc own nL ret G ad X) {A1 A2 : Option Rv} {x y : Int32} {off : Int} {tgt : Nat} (hdg : decode cc pc = .ok (.if_icmp .ge off, 3)) (ht : (pc : Int) + off = (tgt : Int)) (kt : ¬ x < y → KF l R nL G ad E Qc X A2 L tgt stk M) (kf : x < y → KF l R nL G ad E Qc X A1 L (pc + 3) stk M) : KF l R nL G ad E Qc X (if x < y then A1 else A2) L pc (.int y :: .int x :: stk) M := fun r hr H locs ls hP hS hl => lv_icmp_ge hX.1 hX.2.1 hdg ht (fun (c : y ≤ x) => kt (Int32.not_lt.mpr c) r (by rw [if_neg (Int32.not_lt.mpr c)] at hr; exact hr) H locs ls hP hS hl) (fun (c : ¬ y ≤ x) => kf (Int32.not_le.mp c) r (by rw [if_pos (Int32.not_le.mp c)] at hr; exact hr) H locs ls hP hS hl)
theorem k_if_gt (hX : Cx l R cc own nL ret G ad X) {A1 A2 : Option Rv} {x : Int32} {off : Int} {tgt : Nat} (hdg : decode cc pc = .ok (.ifCond .gt off, 3)) (ht : (pc : Int) + off = (tgt : Int)) (kt : nI 0 < x → KF l R nL G ad E Qc X A1 L tgt stk M) (kf : ¬ nI 0 < x → KF l R nL G ad E Qc X A2 L (pc + 3) stk M) : KF l R nL G ad E Qc X (if nI 0 < x then A1 else A2) L pc (.int x :: stk) M := fun r hr H locs ls hP hS hl => lv_if_gt hX.1 hX.2.1 hdg ht (fun (c : nI 0 < x) => kt c r (by rw [if_pos c] at hr; exact hr) H locs ls hP hS hl) (fun (c : ¬ nI 0 < x) => kf c r (by rw [if_neg c] at hr; exact hr) H locs ls hP hS hl)
theorem k_icmp_gt (hX : Cx l R cc own nL ret G ad X) {A1 A2 : Option Rv} {x y : Int32} {off : Int} {tgt : Nat} (hdg : decode cc pc = .ok (.if_icmp .gt off, 3)) (ht : (pc : Int) + off = (tgt : Int)) (kt : y < x → KF l R nL G ad E Qc X A1 L tgt stk M) (kf : ¬ y < x → KF l R nL G ad E Qc X A2 L (pc + 3) stk M) : KF l R nL G ad E Qc X (if y < x then A1 else A2) L pc (.int y :: .int x :: stk) M := fun r hr H locs ls hP hS hl => lv_icmp_gt hX.1 hX.2.1 hdg ht (fun (c : y < x) => kt c r (by rw [if_pos c] at hr; exact hr) H locs ls hP hS hl) (fun (c : ¬ y < x) => kf c r (by rw [if_neg c] at hr; exact hr) H locs ls hP hS hl)
theorem k_if_le (hX : Cx l R cc own nL ret G ad X) {A1 A2 : Option Rv} {x : Int32} {off : Int} {tgt : Nat} (hdg : decode cc pc = .ok (.ifCond .le off, 3)) (ht : (pc : Int) + off = (tgt : Int)) (kt : ¬ nI 0 < x → KF l R nL G ad E Qc X A2 L tgt stk M) (kf : nI 0 < x → KF l R nL G ad E Qc X A1 L (pc + 3) stk M) : KF l R nL G ad E Qc X (if nI 0 < x then A1 else A2) L pc (.int x :: stk) M := fun r hr H locs ls hP hS hl => lv_if_le hX.1 hX.2.1 hdg ht (fun (c : x ≤ nI 0) => kt (Int32.not_lt.mpr c) r (by rw [if_neg (Int32.not_lt.mpr c)] at hr; exact hr) H locs ls hP hS hl) (fun (c : ¬ x ≤ nI 0) => kf (Int32.not_le.mp c) r (by rw [if_pos (Int32.not_le.mp c)] at hr; exact hr) H locs ls hP hS hl)
theorem k_icmp_le (hX : Cx l R cc own nL ret G ad X) {A1 A2 : Option Rv} {x y : Int32} {off : Int} {tgt : Nat} (hdg : decode cc pc = .ok (.if_icmp .le off, 3)) (ht : (pc : Int) + off = (tgt : Int)) (kt : ¬ y < x → KF l R nL G ad E Qc X A2 L tgt stk M) (kf : y < x → KF l R nL G ad E Qc X A1 L (pc + 3) stk M) : KF l R nL G ad E Qc X (if y < x then A1 else A2) L pc (.int y :: .int x :: stk) M := fun r hr H locs ls hP hS hl => lv_icmp_le hX.1 hX.2.1 hdg ht (fun (c : x ≤ y) => kt (Int32.not_lt.mpr c) r (by rw [if_neg (Int32.not_lt.mpr c)] at hr; exact hr) H locs ls hP hS hl) (fun (c : ¬ x ≤ y) => kf (Int32.not_le.mp c) r (by rw [if_pos (Int32.not_le.mp c)] at hr; exact hr) H locs ls hP hS hl)
end KROWS
