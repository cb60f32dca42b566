/-! reading as a machine of two stacks (tops in front) -/
def isF (c : Nat) : Bool := c == 33 || c == 88 || c == 78 || c == 71 || c == 70
def isV (c : Nat) : Bool := c == 48 || c == 49 || (Nat.ble 97 c && Nat.ble c 102)
def bnd (c : Nat) : Nat := if c = 38 then 2 else if c = 82 then 3 else if c = 85 then 3 else if c = 124 then 1 else 0
def lst (c : Nat) : Nat := if c = 85 ∨ c = 82 then bnd c + 1 else bnd c
def valT (c : Nat) : T := if c = 48 then lf 0 else if c = 49 then lf 1 else lf (4 + (c - 97))
def unT (c : Nat) (v : T) : T := if c = 33 then opp v else if c = 71 then nd 19 [lf 0, v] else if c = 78 then nd 17 [v] else if c = 88 then nd 16 [v] else nd 18 [lf 1, v]
def biT (c : Nat) (a b : T) : T := if c = 38 then joinT 20 [a, b] else if c = 82 then nd 19 [a, b] else if c = 85 then nd 18 [a, b] else joinT 21 [a, b]
def appF : List T → List Nat → List T × List Nat
  | V, [] => (V, [])
  | [], w :: W => ([], w :: W)
  | v :: V, w :: W => if isF w = true then appF (unT w v :: V) W else (v :: V, w :: W)
def cmb (l : Nat) : List T → List Nat → List T × List Nat
  | V, [] => (V, [])
  | [], w :: W => ([], w :: W)
  | [v], w :: W => ([v], w :: W)
  | b :: a :: V, w :: W => if bnd w < l then (b :: a :: V, w :: W) else cmb l (biT w a b :: V) W
def rd1 (c : Nat) (V : List T) (W : List Nat) : List T × List Nat :=
  if isV c = true then appF (valT c :: V) W
  else if c = 41 then appF (cmb 1 V W).1 (cmb 1 V W).2.tail
  else if 0 < bnd c then ((cmb (lst c) V W).1, c :: (cmb (lst c) V W).2)
  else (V, c :: W)
def rdA : List Nat → List T → List Nat → List T × List Nat
  | [], V, W => (V, W)
  | c :: cs, V, W => rdA cs (rd1 c V W).1 (rd1 c V W).2
def rdT (cs : List Nat) : T := ((cmb 1 (rdA cs [] []).1 (rdA cs [] []).2).1.getLast?).getD (lf 0)
/-- what it may have made -/
def VN (V : List T) : Prop := ∀ v ∈ V, AR v = true ∧ NF v
