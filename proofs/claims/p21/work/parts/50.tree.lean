/-! FORMS AS TREES: coded in a binary tree of core Lean; nd k ts is the tree of kind k made of ts -/
abbrev Ex : Type := Lean.Data.AC.Expr
def isX : Ex → Bool → Bool
  | .var _, true => false
  | .var n, false => n == 0
  | .op a b, true => (match a with | .var _ => true | _ => false) && isX b false
  | .op a b, false => isX a true && isX b false
abbrev T : Type := { e : Ex // isX e true = true }
def toF : List T → Ex
  | [] => .var 0
  | t :: ts => .op t.1 (toF ts)
theorem toF_ok : ∀ ts : List T, isX (toF ts) false = true
  | [] => rfl
  | t :: ts => by
    show (isX t.1 true && isX (toF ts) false) = true
    rw [t.2, toF_ok ts]
    rfl
def nd (k : Nat) (ts : List T) : T := ⟨.op (.var k) (toF ts), by show (true && isX (toF ts) false) = true; rw [toF_ok ts]; rfl⟩
def unF : Ex → List T
  | .var _ => []
  | .op a b => if h : isX a true = true then ⟨a, h⟩ :: unF b else unF b
theorem unF_toF : ∀ ts : List T, unF (toF ts) = ts
  | [] => rfl
  | t :: ts => by
    show (if h : isX t.1 true = true then (⟨t.1, h⟩ : T) :: unF (toF ts) else unF (toF ts)) = _
    rw [dif_pos t.2, unF_toF ts]
theorem toF_unF : ∀ e : Ex, isX e false = true → toF (unF e) = e
  | .var n, h => by
    have : n = 0 := by simpa [isX] using h
    subst this
    rfl
  | .op a b, h => by
    have h1 : isX a true = true ∧ isX b false = true := by
      have : (isX a true && isX b false) = true := h
      simpa using this
    show toF (if h : isX a true = true then (⟨a, h⟩ : T) :: unF b else unF b) = _
    rw [dif_pos h1.1]
    show Lean.Data.AC.Expr.op a (toF (unF b)) = _
    rw [toF_unF b h1.2]
def kind (t : T) : Nat := match t.1 with | .op (.var k) _ => k | _ => 0
def kids (t : T) : List T := match t.1 with | .op _ f => unF f | _ => []
theorem kind_nd (k : Nat) (ts : List T) : kind (nd k ts) = k := rfl
theorem kids_nd (k : Nat) (ts : List T) : kids (nd k ts) = ts := unF_toF ts
theorem nd_eta (t : T) : nd (kind t) (kids t) = t := by
  obtain ⟨e, h⟩ := t
  match e, h with
  | .op (.var k) f, h =>
    apply Subtype.ext
    show Lean.Data.AC.Expr.op (.var k) (toF (unF f)) = _
    rw [toF_unF f (by simpa [isX] using h)]
  | .op (.op _ _) _, h => simp [isX] at h
  | .var _, h => simp [isX] at h
theorem T_ext {a b : T} (h1 : kind a = kind b) (h2 : kids a = kids b) : a = b := by rw [← nd_eta a, ← nd_eta b, h1, h2]
def szE : Ex → Nat
  | .var _ => 0
  | .op a b => (match a with | .var _ => 1 | .op _ _ => szE a) + szE b
def size (t : T) : Nat := szE t.1
theorem szE_toF : ∀ ts : List T, szE (toF ts) = (ts.map size).sum
  | [] => rfl
  | t :: ts => by
    rw [List.map_cons, List.sum_cons, ← szE_toF ts]
    obtain ⟨e, h⟩ := t
    match e, h with
    | .op a b, h => rfl
    | .var _, h => simp [isX] at h
theorem size_nd (k : Nat) (ts : List T) : size (nd k ts) = 1 + (ts.map size).sum := by
  show 1 + szE (toF ts) = _
  rw [szE_toF]
theorem size_eq (t : T) : size t = 1 + ((kids t).map size).sum := by rw [← size_nd (kind t), nd_eta]
theorem size_pos (t : T) : 0 < size t := by rw [size_eq]; omega
theorem le_sum_of_mem {l : List Nat} {x : Nat} (h : x ∈ l) : x ≤ l.sum := by
  induction l with
  | nil => cases h
  | cons a l ih =>
    rw [List.sum_cons]
    rcases List.mem_cons.mp h with rfl | h
    · omega
    · have := ih h
      omega
theorem size_kid {t x : T} (h : x ∈ kids t) : size x < size t := by
  have h1 : size x ≤ ((kids t).map size).sum := le_sum_of_mem (List.mem_map_of_mem h)
  rw [size_eq t]
  omega
theorem T_ind {P : T → Prop} (h : ∀ (k : Nat) (ts : List T), (∀ t ∈ ts, P t) → P (nd k ts)) (t : T) : P t := by
  generalize hn : size t = n
  induction n using Nat.strongRecOn generalizing t with
  | ind n ih =>
    rw [← nd_eta t]
    exact h _ _ (fun x hx => ih (size x) (by rw [← hn]; exact size_kid hx) x rfl)
def tfold {α : Type} (alg : Nat → List T → List α → α) (t : T) : α := alg (kind t) (kids t) ((kids t).attach.map fun x => tfold alg x.1)
termination_by size t
decreasing_by exact size_kid x.2
theorem tfold_nd {α : Type} (alg : Nat → List T → List α → α) (k : Nat) (ts : List T) : tfold alg (nd k ts) = alg k ts (ts.map (tfold alg)) := by
  rw [tfold, kind_nd, kids_nd]
  congr 1
  simp
theorem tfold_eq {α : Type} (alg : Nat → List T → List α → α) (t : T) : tfold alg t = alg (kind t) (kids t) ((kids t).map (tfold alg)) := by
  have h := tfold_nd alg (kind t) (kids t)
  rw [nd_eta] at h
  exact h
def lf (k : Nat) : T := nd k []
/-- signs of a form, as bits -/
def sgn : T → Nat := tfold fun k _ l => if k < 4 then 0 else if k < 16 then 2 ^ ((k - 4) % 6) else l.foldl (· ||| ·) 0
/-- true at the end -/
def tae : T → Bool := tfold fun k _ l => if k < 16 then (k == 1 || k == 3 || Nat.ble 10 k) else if k = 17 ∨ k = 19 then true else if k = 20 then l.all id else if k = 21 then l.any id else false
/-- the length of its text -/
def wid : T → Nat := tfold fun k _ l => if k < 10 then 1 else if k < 16 then 2 else if k < 18 then 1 + l.sum else 1 + (l.map (· + 1)).sum
def lfc (k : Nat) : Nat := ([48, 49, 62, 46, 97, 98, 99, 100, 101, 102, 97, 98, 99, 100, 101, 102] : List Nat).getD k 0
def sepc (k : Nat) : Nat := if k = 18 then 85 else if k = 19 then 82 else if k = 20 then 38 else 124
/-- what stands behind the first form of some in brackets -/
def rest (s : Nat) : List (List Nat) → List Nat
  | [] => [41]
  | x :: l => s :: (x ++ rest s l)
def txt : T → List Nat := tfold fun k _ l => if k < 10 then [lfc k] else if k < 16 then [45, lfc k] else if k = 16 then 88 :: l.headD [] else if k = 17 then 78 :: l.headD [] else 40 :: (l.headD [] ++ rest (sepc k) l.tail)
/-- the codes in which the class keeps a form -/
def codes : T → List Nat := tfold fun k ts l => (k + 32 * ts.length) :: l.flatten
/-- as many forms as the kind asks for -/
def arity (k n : Nat) : Bool := if k < 16 then n == 0 else if k < 18 then n == 1 else if k < 20 then n == 2 else Nat.ble k 21 && Nat.ble 2 n
def AR : T → Bool := tfold fun k ts l => arity k ts.length && l.all id
