/-! THE FUNCTIONAL PROGRAMS, by gen.py out of the bytecode -/
def f_X0_begin (p1 : Int32) (M : Mem) : Option Rv := (mpi M 13 4 p1).bind fun M1 => (mpi M1 13 5 (nI 0)).bind fun M2 => (mpi M2 13 6 (nI 0)).bind fun M3 => some (nI 0, M3)
def f_X0_neutral_14 (s0 : Int32) (M : Mem) : Option Rv := some (s0, M)
def f_X0_neutral (M : Mem) : Option Rv := if (M 13 4) = (nI 20) then (f_X0_neutral_14 (nI 1) M) else f_X0_neutral_14 (nI 0) M
def f_X1_kid_31 (s0 : Int32) (M : Mem) : Option Rv := some (s0, M)
def f_X1_kid_30 (M : Mem) : Option Rv := f_X1_kid_31 (nI 0) M
def f_X1_kid (p1 : Int32) (p2 : Int32) (M : Mem) : Option Rv := if p2 < (nI 0) then (f_X1_kid_30 M) else (mrd M 4 2048 p1).bind fun v2 => if p2 < v2 then ((mrd M 3 2048 p1).bind fun v4 => (mrd M 9 8192 (v4 + p2)).bind fun v5 => f_X1_kid_31 v5 M) else f_X1_kid_30 M
def f_X1_order_66 (x3 : Int32) (x4 : Int32) (M : Mem) : Option Rv := some (x3 - x4, M)
def f_X1_order_260 (x8 : Int32) (s0 : Int32) (M : Mem) : Option Rv := some (x8 - s0, M)
def f_X1_order_230 (x4 : Int32) (x6 : Int32) (s0 : Int32) (M : Mem) : Option Rv := (mrd M 4 2048 x4).bind fun v1 => if v1 = x6 then (f_X1_order_260 s0 (nI 41) M) else (mrd M 2 2048 x4).bind fun v3 => (mrs sepf 22 v3).bind fun v4 => f_X1_order_260 s0 v4 M
def f_X1_order_197 (k8 : Int32 → Int32 → Int32 → Mem → Option Rv) (x3 : Int32) (x4 : Int32) (x5 : Int32) (x6 : Int32) (x7 : Int32) (M : Mem) : Option Rv := if x7 = x6 then ((mrd M 4 2048 x3).bind fun v6 => if v6 = x6 then (f_X1_order_230 x4 x6 (nI 41) M) else (mrd M 2 2048 x3).bind fun v8 => (mrs sepf 22 v8).bind fun v9 => f_X1_order_230 x4 x6 v9 M) else (mrd M 3 2048 x3).bind fun v2 => (mrd M 9 8192 (v2 + x7)).bind fun v3 => (mrd M 3 2048 x4).bind fun v4 => (mrd M 9 8192 (v4 + x7)).bind fun v5 => k8 v3 v5 (x5 + nI 1) M
def f_X1_order_153 (k8 : Int32 → Int32 → Int32 → Mem → Option Rv) (x3 : Int32) (x4 : Int32) (x5 : Int32) (x6 : Int32) (x7 : Int32) (M : Mem) : Option Rv := if (nI 0) < x7 then ((mrd M 2 2048 x3).bind fun v2 => (mrd M 2 2048 x4).bind fun v3 => if v2 = v3 then (f_X1_order_197 k8 x3 x4 x5 x6 x7 M) else (mrd M 2 2048 x3).bind fun v5 => (mrs sepf 22 v5).bind fun v6 => (mrd M 2 2048 x4).bind fun v7 => (mrs sepf 22 v7).bind fun v8 => some (v6 - v8, M)) else f_X1_order_197 k8 x3 x4 x5 x6 x7 M
def f_X1_order_108 (k8 : Int32 → Int32 → Int32 → Mem → Option Rv) : Nat → Int32 → Int32 → Int32 → Int32 → Int32 → Mem → Option Rv
  | 0, _, _, _, _, _, _ => none
  | n + 1, x3, x4, x5, x6, x7, M => if x7 < x6 then ((mrd M 3 2048 x3).bind fun v2 => (mrd M 9 8192 (v2 + x7)).bind fun v3 => (mrd M 3 2048 x4).bind fun v4 => (mrd M 9 8192 (v4 + x7)).bind fun v5 => if v3 = v5 then (f_X1_order_108 k8 n x3 x4 x5 x6 (x7 + nI 1) M) else f_X1_order_153 k8 x3 x4 x5 x6 x7 M) else f_X1_order_153 k8 x3 x4 x5 x6 x7 M
def f_X1_order_103 (k8 : Int32 → Int32 → Int32 → Mem → Option Rv) (x3 : Int32) (x4 : Int32) (x5 : Int32) (s0 : Int32) (M : Mem) : Option Rv := f_X1_order_108 k8 fuelN x3 x4 x5 s0 (nI 0) M
def f_X1_order_306 (M : Mem) : Option Rv := some ((nI 0), M)
def f_X1_order_8 : Nat → Int32 → Int32 → Int32 → Mem → Option Rv
  | 0, _, _, _, _ => none
  | n + 1, x3, x4, x5, M => if x5 < (nI 2048) then (if x3 = x4 then (f_X1_order_306 M) else (mrd M 8 2048 x3).bind fun v3 => (mrd M 8 2048 x4).bind fun v4 => if v3 = v4 then (if x3 < (nI 16) then (f_X1_order_66 x3 x4 M) else if x4 < (nI 16) then (f_X1_order_66 x3 x4 M) else (mrd M 4 2048 x3).bind fun v8 => (mrd M 4 2048 x4).bind fun v9 => if v8 < v9 then ((mrd M 4 2048 x3).bind fun v12 => f_X1_order_103 (f_X1_order_8 n) x3 x4 x5 v12 M) else (mrd M 4 2048 x4).bind fun v11 => f_X1_order_103 (f_X1_order_8 n) x3 x4 x5 v11 M) else (mrd M 8 2048 x3).bind fun v13 => (mrd M 8 2048 x4).bind fun v14 => some (v13 - v14, M)) else f_X1_order_306 M
def f_X1_order (p1 : Int32) (p2 : Int32) (M : Mem) : Option Rv := f_X1_order_8 fuelN p1 p2 (nI 0) M
def f_X0_put_220 (k43 : Int32 → Int32 → Int32 → Int32 → Mem → Option Rv) (x1 : Int32) (x2 : Int32) (x3 : Int32) (x4 : Int32) (M : Mem) : Option Rv := k43 x1 x2 x3 (x4 + nI 1) M
def f_X0_put_151 (k43 : Int32 → Int32 → Int32 → Int32 → Mem → Option Rv) (x1 : Int32) (x2 : Int32) (x3 : Int32) (x4 : Int32) (x5 : Int32) (x6 : Int32) (s0 : Int32) (M : Mem) : Option Rv := if s0 = (nI 0) then ((f_X0_neutral M).bind fun q2 => if x5 = q2.1 then (f_X0_put_220 k43 x1 x2 x3 x4 q2.2) else if (q2.2 13 5) < (nI 2048) then ((mcp q2.2 15 2048 15 2048 x6 (x6 + (nI 1)) ((q2.2 13 5) - x6)).bind fun M5 => (mst M5 15 2048 x6 x5).bind fun M6 => (mpi M6 13 5 ((M6 13 5) + (nI 1))).bind fun M7 => f_X0_put_220 k43 x1 x2 x3 x4 M7) else f_X0_put_220 k43 x1 x2 x3 x4 q2.2) else f_X0_put_220 k43 x1 x2 x3 x4 M
def f_X0_put_150 (k43 : Int32 → Int32 → Int32 → Int32 → Mem → Option Rv) (x1 : Int32) (x2 : Int32) (x3 : Int32) (x4 : Int32) (x5 : Int32) (x6 : Int32) (M : Mem) : Option Rv := f_X0_put_151 k43 x1 x2 x3 x4 x5 x6 (nI 0) M
def f_X0_put_127 (k43 : Int32 → Int32 → Int32 → Int32 → Mem → Option Rv) (x1 : Int32) (x2 : Int32) (x3 : Int32) (x4 : Int32) (x5 : Int32) (x6 : Int32) (M : Mem) : Option Rv := if (nI 0) < x6 then ((mrd M 15 2048 (x6 - (nI 1))).bind fun v2 => if v2 = x5 then (f_X0_put_151 k43 x1 x2 x3 x4 x5 x6 (nI 1) M) else f_X0_put_150 k43 x1 x2 x3 x4 x5 x6 M) else f_X0_put_150 k43 x1 x2 x3 x4 x5 x6 M
def f_X0_put_95 (k43 : Int32 → Int32 → Int32 → Int32 → Mem → Option Rv) : Nat → Int32 → Int32 → Int32 → Int32 → Int32 → Int32 → Mem → Option Rv
  | 0, _, _, _, _, _, _, _ => none
  | n + 1, x1, x2, x3, x4, x5, x6, M => if (nI 0) < x6 then ((mrd M 15 2048 (x6 - (nI 1))).bind fun v2 => (f_X1_order v2 x5 M).bind fun q3 => if (nI 0) < q3.1 then (f_X0_put_95 k43 n x1 x2 x3 x4 x5 (x6 - nI 1) q3.2) else f_X0_put_127 k43 x1 x2 x3 x4 x5 x6 q3.2) else f_X0_put_127 k43 x1 x2 x3 x4 x5 x6 M
def f_X0_put_89 (k43 : Int32 → Int32 → Int32 → Int32 → Mem → Option Rv) (x1 : Int32) (x2 : Int32) (x3 : Int32) (x4 : Int32) (x5 : Int32) (M : Mem) : Option Rv := f_X0_put_95 k43 fuelN x1 x2 x3 x4 x5 (M 13 5) M
def f_X0_put_67 (k43 : Int32 → Int32 → Int32 → Int32 → Mem → Option Rv) (x1 : Int32) (x2 : Int32) (x3 : Int32) (x4 : Int32) (s0 : Int32) (M : Mem) : Option Rv := if s0 < (nI 16) then ((mpi M 13 6 ((M 13 6) ||| ((nI 1) <<< (s0 &&& nI 31)))).bind fun M2 => f_X0_put_89 k43 x1 x2 x3 x4 s0 M2) else f_X0_put_89 k43 x1 x2 x3 x4 s0 M
def f_X0_put_43 : Nat → Int32 → Int32 → Int32 → Int32 → Mem → Option Rv
  | 0, _, _, _, _, _ => none
  | n + 1, x1, x2, x3, x4, M => if x4 < x3 then (if x2 = (nI 0) then (f_X0_put_67 (f_X0_put_43 n) x1 x2 x3 x4 x1 M) else (f_X1_kid x1 x4 M).bind fun q3 => f_X0_put_67 (f_X0_put_43 n) x1 x2 x3 x4 q3.1 q3.2) else some (nI 0, M)
def f_X0_put_39 (x1 : Int32) (x2 : Int32) (s0 : Int32) (M : Mem) : Option Rv := f_X0_put_43 fuelN x1 x2 s0 (nI 0) M
def f_X0_put_21 (x1 : Int32) (s0 : Int32) (M : Mem) : Option Rv := if s0 = (nI 0) then (f_X0_put_39 x1 s0 (nI 1) M) else (mrd M 4 2048 x1).bind fun v2 => f_X0_put_39 x1 s0 v2 M
def f_X0_put (p1 : Int32) (M : Mem) : Option Rv := (mrd M 2 2048 p1).bind fun v1 => if v1 = (M 13 4) then (f_X0_put_21 p1 (nI 1) M) else f_X0_put_21 p1 (nI 0) M
def f_X1_describe_108 (k26 : Int32 → Int32 → Int32 → Int32 → Int32 → Int32 → Int32 → Mem → Option Rv) (x1 : Int32) (x2 : Int32) (x3 : Int32) (x4 : Int32) (x5 : Int32) (x7 : Int32) (s0 : Int32) (M : Mem) : Option Rv := k26 x1 x2 x3 x4 x5 s0 (x7 + nI 1) M
def f_X1_describe_103 (k26 : Int32 → Int32 → Int32 → Int32 → Int32 → Int32 → Int32 → Mem → Option Rv) (x1 : Int32) (x2 : Int32) (x3 : Int32) (x4 : Int32) (x5 : Int32) (x7 : Int32) (M : Mem) : Option Rv := f_X1_describe_108 k26 x1 x2 x3 x4 x5 x7 (nI 1) M
def f_X1_describe_86 (k26 : Int32 → Int32 → Int32 → Int32 → Int32 → Int32 → Int32 → Mem → Option Rv) (x1 : Int32) (x2 : Int32) (x3 : Int32) (x4 : Int32) (x6 : Int32) (x7 : Int32) (x8 : Int32) (s0 : Int32) (M : Mem) : Option Rv := if x6 = (nI 0) then ((mrd M 7 2048 x8).bind fun v2 => if v2 = (nI 0) then (f_X1_describe_108 k26 x1 x2 x3 x4 s0 x7 (nI 0) M) else f_X1_describe_103 k26 x1 x2 x3 x4 s0 x7 M) else f_X1_describe_103 k26 x1 x2 x3 x4 s0 x7 M
def f_X1_describe_85 (k26 : Int32 → Int32 → Int32 → Int32 → Int32 → Int32 → Int32 → Mem → Option Rv) (x1 : Int32) (x2 : Int32) (x3 : Int32) (x4 : Int32) (x6 : Int32) (x7 : Int32) (x8 : Int32) (M : Mem) : Option Rv := f_X1_describe_86 k26 x1 x2 x3 x4 x6 x7 x8 (nI 0) M
def f_X1_describe_205 (s0 : Int32) (s1 : Int32) (M : Mem) : Option Rv := (mst M 7 2048 s1 (nz s0)).bind fun M1 => some (nI 0, M1)
def f_X1_describe_200 (s0 : Int32) (M : Mem) : Option Rv := f_X1_describe_205 (nI 1) s0 M
def f_X1_describe_204 (s0 : Int32) (M : Mem) : Option Rv := f_X1_describe_205 (nI 0) s0 M
def f_X1_describe_189 (x2 : Int32) (x6 : Int32) (s0 : Int32) (M : Mem) : Option Rv := if x2 = (nI 21) then (if x6 = (nI 0) then (f_X1_describe_204 s0 M) else f_X1_describe_200 s0 M) else f_X1_describe_204 s0 M
def f_X1_describe_160 (x1 : Int32) (x2 : Int32) (x5 : Int32) (x6 : Int32) (s0 : Int32) (s1 : Int32) (M : Mem) : Option Rv := (mst M 8 2048 s1 (nc s0)).bind fun M1 => if x2 = (nI 17) then (f_X1_describe_200 x1 M1) else if x2 = (nI 19) then (f_X1_describe_200 x1 M1) else if x2 = (nI 20) then (if x5 = (nI 0) then (f_X1_describe_189 x2 x6 x1 M1) else f_X1_describe_200 x1 M1) else f_X1_describe_189 x2 x6 x1 M1
def f_X1_describe_26 : Nat → Int32 → Int32 → Int32 → Int32 → Int32 → Int32 → Int32 → Mem → Option Rv
  | 0, _, _, _, _, _, _, _, _ => none
  | n + 1, x1, x2, x3, x4, x5, x6, x7, M => if x7 < (M 1 12) then ((mrd M 9 8192 x7).bind fun v6 => (mrd M 5 2048 v6).bind fun v7 => (mrd M 6 2048 v6).bind fun v8 => if x5 = (nI 0) then (f_X1_describe_85 (f_X1_describe_26 n) x1 x2 (x3 + v7) (x4 ||| v8) x6 x7 v6 M) else (mrd M 7 2048 v6).bind fun v10 => if v10 = (nI 0) then (f_X1_describe_85 (f_X1_describe_26 n) x1 x2 (x3 + v7) (x4 ||| v8) x6 x7 v6 M) else f_X1_describe_86 (f_X1_describe_26 n) x1 x2 (x3 + v7) (x4 ||| v8) x6 x7 v6 (nI 1) M) else (mst M 5 2048 x1 x3).bind fun M2 => (mst M2 6 2048 x1 x4).bind fun M3 => if x2 = (nI 16) then (f_X1_describe_160 x1 x2 x5 x6 (nI 88) x1 M3) else if x2 = (nI 17) then (f_X1_describe_160 x1 x2 x5 x6 (nI 78) x1 M3) else f_X1_describe_160 x1 x2 x5 x6 (nI 40) x1 M3
def f_X1_describe (p1 : Int32) (M : Mem) : Option Rv := (mrd M 2 2048 p1).bind fun v1 => (mrd M 3 2048 p1).bind fun v2 => f_X1_describe_26 fuelN p1 v1 (nI 1) (nI 0) (nI 1) (nI 0) v2 M
def f_X1_isMadeOf_21 (M : Mem) : Option Rv := mrz (nI 0) M
def f_X1_isMadeOf_26 : Nat → Int32 → Nat → Int32 → Int32 → Int32 → Mem → Option Rv
  | 0, _, _, _, _, _, _ => none
  | n + 1, x1, x3, x4, x5, x6, M => if x6 < x5 then ((mrd M 3 2048 x1).bind fun v2 => (mrd M 9 8192 (v2 + x6)).bind fun v3 => (mrd M x3 (rlen x3) (x4 + x6)).bind fun v4 => if v3 = v4 then (f_X1_isMadeOf_26 n x1 x3 x4 x5 (x6 + nI 1) M) else mrz (nI 0) M) else mrz (nI 1) M
def f_X1_isMadeOf (p1 : Int32) (p2 : Int32) (p3 : Nat) (p4 : Int32) (p5 : Int32) (M : Mem) : Option Rv := (mrd M 2 2048 p1).bind fun v1 => if v1 = p2 then ((mrd M 4 2048 p1).bind fun v3 => if v3 = p5 then (f_X1_isMadeOf_26 fuelN p1 p3 p4 p5 (nI 0) M) else f_X1_isMadeOf_21 M) else f_X1_isMadeOf_21 M
def f_X1_make_13 (M : Mem) : Option Rv := some ((nI 0), M)
def f_X1_make_142 (M : Mem) : Option Rv := some ((nI 0), M)
def f_X1_make_119 (x1 : Int32) (x2 : Nat) (x3 : Int32) (x4 : Int32) (x6 : Int32) (M : Mem) : Option Rv := if (M 1 11) < (nI 2048) then (if ((nI 8192) - (M 1 12)) < x4 then (f_X1_make_142 M) else (mpi M 1 11 ((M 1 11) + (nI 1))).bind fun M3 => (mst M3 12 2048 (M 1 11) x6).bind fun M4 => (mrd M4 10 512 x6).bind fun v5 => (mst M4 11 2048 (M 1 11) v5).bind fun M6 => (mst M6 10 512 x6 (M 1 11)).bind fun M7 => (mst M7 2 2048 (M 1 11) x1).bind fun M8 => (mst M8 3 2048 (M 1 11) (M8 1 12)).bind fun M9 => (mst M9 4 2048 (M 1 11) x4).bind fun M10 => (mcp M10 x2 (rlen x2) 9 8192 x3 (M10 1 12) x4).bind fun M11 => (mpi M11 1 12 ((M11 1 12) + x4)).bind fun M12 => (f_X1_describe (M 1 11) M12).bind fun q13 => some (M 1 11, q13.2)) else f_X1_make_142 M
def f_X1_make_74 : Nat → Int32 → Nat → Int32 → Int32 → Int32 → Int32 → Int32 → Mem → Option Rv
  | 0, _, _, _, _, _, _, _, _ => none
  | n + 1, x1, x2, x3, x4, x6, x7, x8, M => if x8 < (nI 2048) then (if x7 = (nI 0) then (f_X1_make_119 x1 x2 x3 x4 x6 M) else (f_X1_isMadeOf x7 x1 x2 x3 x4 M).bind fun q3 => if q3.1 = (nI 0) then ((mrd q3.2 11 2048 x7).bind fun v5 => f_X1_make_74 n x1 x2 x3 x4 x6 v5 (x8 + nI 1) q3.2) else some (x7, q3.2)) else f_X1_make_119 x1 x2 x3 x4 x6 M
def f_X1_make_21 : Nat → Int32 → Nat → Int32 → Int32 → Int32 → Int32 → Mem → Option Rv
  | 0, _, _, _, _, _, _, _ => none
  | n + 1, x1, x2, x3, x4, x5, x6, M => if x6 < x4 then ((mrd M x2 (rlen x2) (x3 + x6)).bind fun v3 => f_X1_make_21 n x1 x2 x3 x4 ((x5 * (nI 31)) + v3) (x6 + nI 1) M) else (mrd M 10 512 ((x5 ^^^ (mushr x5 (nI 9))) &&& (nI 511))).bind fun v2 => f_X1_make_74 fuelN x1 x2 x3 x4 ((x5 ^^^ (mushr x5 (nI 9))) &&& (nI 511)) v2 (nI 0) M
def f_X1_make (p1 : Int32) (p2 : Nat) (p3 : Int32) (p4 : Int32) (M : Mem) : Option Rv := if p3 < (nI 0) then (f_X1_make_13 M) else if ((nI (rlen p2)) - p3) < p4 then (f_X1_make_13 M) else f_X1_make_21 fuelN p1 p2 p3 p4 p1 (nI 0) M
def f_X0_done_83 (x2 : Int32) (M : Mem) : Option Rv := some (x2, M)
def f_X0_done_131 (s0 : Int32) (M : Mem) : Option Rv := some (s0, M)
def f_X0_done_67 (x1 : Int32) (x2 : Int32) (x3 : Int32) (x4 : Int32) (s0 : Int32) (M : Mem) : Option Rv := if x3 = (nI 0) then (if x4 = (nI 0) then (if s0 = (nI 0) then (if (M 13 5) = (nI 0) then (some (x1, M)) else if (M 13 5) = (nI 1) then ((mrd M 15 2048 (nI 0)).bind fun v7 => f_X0_done_131 v7 M) else (f_X1_make (M 13 4) 15 (nI 0) (M 13 5) M).bind fun q6 => f_X0_done_131 q6.1 q6.2) else f_X0_done_83 x2 M) else f_X0_done_83 x2 M) else f_X0_done_83 x2 M
def f_X0_done_43 (x1 : Int32) (x2 : Int32) (x3 : Int32) (s0 : Int32) (M : Mem) : Option Rv := if (((M 13 6) >>> ((nI 4) &&& nI 31)) &&& ((M 13 6) >>> ((nI 10) &&& nI 31))) = (nI 0) then (f_X0_done_67 x1 x2 x3 s0 (nI 0) M) else f_X0_done_67 x1 x2 x3 s0 (nI 1) M
def f_X0_done_25 (x1 : Int32) (x2 : Int32) (s0 : Int32) (M : Mem) : Option Rv := if ((M 13 6) &&& (nI 12)) = (nI 12) then (f_X0_done_43 x1 x2 s0 (nI 1) M) else f_X0_done_43 x1 x2 s0 (nI 0) M
def f_X0_done (M : Mem) : Option Rv := (f_X0_neutral M).bind fun q1 => if ((q1.2 13 6) &&& ((nI 1) <<< (((nI 1) - q1.1) &&& nI 31))) = (nI 0) then (f_X0_done_25 q1.1 ((nI 1) - q1.1) (nI 0) q1.2) else f_X0_done_25 q1.1 ((nI 1) - q1.1) (nI 1) q1.2
def f_X0_two (p1 : Int32) (p2 : Int32) (p3 : Int32) (M : Mem) : Option Rv := (f_X0_begin p1 M).bind fun q1 => (f_X0_put p2 q1.2).bind fun q2 => (f_X0_put p3 q2.2).bind fun q3 => (f_X0_done q3.2).bind fun q4 => some (q4.1, q4.2)
def f_X0_make_41 (s0 : Int32) (s1 : Int32) (s3 : Int32) (M : Mem) : Option Rv := (f_X1_make s3 16 s1 s0 M).bind fun q1 => some (q1.1, q1.2)
def f_X0_make_36 (s0 : Int32) (s2 : Int32) (M : Mem) : Option Rv := f_X0_make_41 (nI 1) s0 s2 M
def f_X0_make (p1 : Int32) (p2 : Int32) (p3 : Int32) (M : Mem) : Option Rv := (mst M 16 2 (nI 0) p2).bind fun M1 => (mst M1 16 2 (nI 1) p3).bind fun M2 => if p1 = (nI 16) then (f_X0_make_36 (nI 0) p1 M2) else if p1 = (nI 17) then (f_X0_make_36 (nI 0) p1 M2) else f_X0_make_41 (nI 2) (nI 0) p1 M2
def f_X0_joinKids_7 : Nat → Int32 → Int32 → Mem → Option Rv
  | 0, _, _, _ => none
  | n + 1, x1, x3, M => (mrd M 4 2048 x1).bind fun v1 => if x3 < v1 then ((f_X1_kid x1 x3 M).bind fun q4 => (mrd q4.2 14 2048 q4.1).bind fun v5 => (f_X0_put v5 q4.2).bind fun q6 => f_X0_joinKids_7 n x1 (x3 + nI 1) q6.2) else (f_X0_done M).bind fun q3 => some (q3.1, q3.2)
def f_X0_joinKids (p1 : Int32) (p2 : Int32) (M : Mem) : Option Rv := (f_X0_begin p2 M).bind fun q1 => f_X0_joinKids_7 fuelN p1 (nI 0) q1.2
def f_X0_behind_87 (k30 : Int32 → Int32 → Int32 → Mem → Option Rv) (x1 : Int32) (x2 : Int32) (x3 : Int32) (s0 : Int32) (s1 : Int32) (M : Mem) : Option Rv := (mst M 14 2048 s1 s0).bind fun M1 => k30 x1 x2 (x3 + nI 1) M1
def f_X0_behind_68 (k30 : Int32 → Int32 → Int32 → Mem → Option Rv) (x1 : Int32) (x2 : Int32) (x3 : Int32) (x4 : Int32) (s0 : Int32) (s1 : Int32) (M : Mem) : Option Rv := (mst M 14 2048 s1 s0).bind fun M1 => if x4 = (nI 0) then (f_X0_behind_87 k30 x1 x2 x3 (nI 1) ((nI 10) + x3) M1) else f_X0_behind_87 k30 x1 x2 x3 (nI 0) ((nI 10) + x3) M1
def f_X0_behind_49 (k30 : Int32 → Int32 → Int32 → Mem → Option Rv) (x1 : Int32) (x2 : Int32) (x3 : Int32) (s0 : Int32) (M : Mem) : Option Rv := if s0 = (nI 0) then (f_X0_behind_68 k30 x1 x2 x3 s0 (nI 0) ((nI 4) + x3) M) else f_X0_behind_68 k30 x1 x2 x3 s0 (nI 1) ((nI 4) + x3) M
def f_X0_behind_300 (k97 : Int32 → Int32 → Mem → Option Rv) (x1 : Int32) (x3 : Int32) (M : Mem) : Option Rv := k97 x1 (x3 + nI 1) M
def f_X0_behind_97 : Nat → Int32 → Int32 → Mem → Option Rv
  | 0, _, _, _ => none
  | n + 1, x1, x3, M => if x1 < x3 then ((mrd M 14 2048 x1).bind fun v2 => some (v2, M)) else (f_X1_kid x3 (nI 0) M).bind fun q3 => (mrd q3.2 4 2048 x3).bind fun v4 => (f_X1_kid x3 (v4 - (nI 1)) q3.2).bind fun q5 => (mrd q5.2 2 2048 x3).bind fun v6 => if v6 = (nI 16) then ((f_X0_two (nI 20) (nI 2) q3.1 q5.2).bind fun q8 => (mst q8.2 14 2048 x3 q8.1).bind fun M9 => f_X0_behind_300 (f_X0_behind_97 n) x1 x3 M9) else if v6 = (nI 17) then ((f_X0_two (nI 21) (nI 3) q3.1 q5.2).bind fun q11 => (mst q11.2 14 2048 x3 q11.1).bind fun M12 => f_X0_behind_300 (f_X0_behind_97 n) x1 x3 M12) else if v6 = (nI 18) then ((mrd q5.2 14 2048 q5.1).bind fun v14 => (mrd q5.2 14 2048 q3.1).bind fun v15 => (f_X0_two (nI 20) v15 x3 q5.2).bind fun q16 => (f_X0_two (nI 21) v14 q16.1 q16.2).bind fun q17 => (mst q17.2 14 2048 x3 q17.1).bind fun M18 => f_X0_behind_300 (f_X0_behind_97 n) x1 x3 M18) else if v6 = (nI 19) then ((mrd q5.2 14 2048 q5.1).bind fun v20 => (mrd q5.2 14 2048 q3.1).bind fun v21 => (f_X0_two (nI 21) v21 x3 q5.2).bind fun q22 => (f_X0_two (nI 20) v20 q22.1 q22.2).bind fun q23 => (mst q23.2 14 2048 x3 q23.1).bind fun M24 => f_X0_behind_300 (f_X0_behind_97 n) x1 x3 M24) else (mrd q5.2 2 2048 x3).bind fun v25 => (f_X0_joinKids x3 v25 q5.2).bind fun q26 => (mst q26.2 14 2048 x3 q26.1).bind fun M27 => f_X0_behind_300 (f_X0_behind_97 n) x1 x3 M27
def f_X0_behind_30 : Nat → Int32 → Int32 → Int32 → Mem → Option Rv
  | 0, _, _, _, _ => none
  | n + 1, x1, x2, x3, M => if x3 < (nI 6) then (if (x2 &&& ((nI 1) <<< (x3 &&& nI 31))) = (nI 0) then (f_X0_behind_49 (f_X0_behind_30 n) x1 x2 x3 (nI 0) M) else f_X0_behind_49 (f_X0_behind_30 n) x1 x2 x3 (nI 1) M) else f_X0_behind_97 fuelN x1 (nI 16) M
def f_X0_behind (p1 : Int32) (p2 : Int32) (M : Mem) : Option Rv := (mst M 14 2048 (nI 0) (nI 0)).bind fun M1 => (mst M1 14 2048 (nI 1) (nI 1)).bind fun M2 => (mst M2 14 2048 (nI 2) (nI 1)).bind fun M3 => (mst M3 14 2048 (nI 3) (nI 0)).bind fun M4 => f_X0_behind_30 fuelN p1 p2 (nI 0) M4
def f_X0_opposite_249 (k69 : Int32 → Int32 → Mem → Option Rv) (x1 : Int32) (x2 : Int32) (M : Mem) : Option Rv := k69 x1 (x2 + nI 1) M
def f_X0_opposite_69 : Nat → Int32 → Int32 → Mem → Option Rv
  | 0, _, _, _ => none
  | n + 1, x1, x2, M => if x1 < x2 then ((mrd M 14 2048 x1).bind fun v2 => some (v2, M)) else (f_X1_kid x2 (nI 0) M).bind fun q3 => (mrd q3.2 14 2048 q3.1).bind fun v4 => (mrd q3.2 4 2048 x2).bind fun v5 => (f_X1_kid x2 (v5 - (nI 1)) q3.2).bind fun q6 => (mrd q6.2 14 2048 q6.1).bind fun v7 => (mrd q6.2 2 2048 x2).bind fun v8 => if v8 = (nI 16) then ((f_X0_make (nI 17) v4 v4 q6.2).bind fun q10 => (mst q10.2 14 2048 x2 q10.1).bind fun M11 => f_X0_opposite_249 (f_X0_opposite_69 n) x1 x2 M11) else if v8 = (nI 17) then ((f_X0_make (nI 16) v4 v4 q6.2).bind fun q13 => (mst q13.2 14 2048 x2 q13.1).bind fun M14 => f_X0_opposite_249 (f_X0_opposite_69 n) x1 x2 M14) else if v8 = (nI 18) then ((f_X0_make (nI 19) v4 v7 q6.2).bind fun q16 => (mst q16.2 14 2048 x2 q16.1).bind fun M17 => f_X0_opposite_249 (f_X0_opposite_69 n) x1 x2 M17) else if v8 = (nI 19) then ((f_X0_make (nI 18) v4 v7 q6.2).bind fun q19 => (mst q19.2 14 2048 x2 q19.1).bind fun M20 => f_X0_opposite_249 (f_X0_opposite_69 n) x1 x2 M20) else (mrd q6.2 2 2048 x2).bind fun v21 => (f_X0_joinKids x2 ((nI 41) - v21) q6.2).bind fun q22 => (mst q22.2 14 2048 x2 q22.1).bind fun M23 => f_X0_opposite_249 (f_X0_opposite_69 n) x1 x2 M23
def f_X0_opposite_30 : Nat → Int32 → Int32 → Mem → Option Rv
  | 0, _, _, _ => none
  | n + 1, x1, x2, M => if x2 < (nI 6) then ((mst M 14 2048 ((nI 4) + x2) ((nI 10) + x2)).bind fun M2 => (mst M2 14 2048 ((nI 10) + x2) ((nI 4) + x2)).bind fun M3 => f_X0_opposite_30 n x1 (x2 + nI 1) M3) else f_X0_opposite_69 fuelN x1 (nI 16) M
def f_X0_opposite (p1 : Int32) (M : Mem) : Option Rv := (mst M 14 2048 (nI 0) (nI 1)).bind fun M1 => (mst M1 14 2048 (nI 1) (nI 0)).bind fun M2 => (mst M2 14 2048 (nI 2) (nI 3)).bind fun M3 => (mst M3 14 2048 (nI 3) (nI 2)).bind fun M4 => f_X0_opposite_30 fuelN p1 (nI 0) M4
def f_X1_release_56 (M : Mem) : Option Rv := some (nI 0, M)
def f_X1_release_7 : Nat → Int32 → Int32 → Mem → Option Rv
  | 0, _, _, _ => none
  | n + 1, x1, x2, M => if x2 < x1 then (f_X1_release_56 M) else if x2 < (nI 16) then (f_X1_release_56 M) else (mrd M 12 2048 x2).bind fun v3 => (mrd M 11 2048 x2).bind fun v4 => (mst M 10 512 v3 v4).bind fun M5 => (mrd M5 3 2048 x2).bind fun v6 => (mpi M5 1 12 v6).bind fun M7 => (mpi M7 1 11 x2).bind fun M8 => f_X1_release_7 n x1 (x2 - nI 1) M8
def f_X1_release (p1 : Int32) (M : Mem) : Option Rv := f_X1_release_7 fuelN p1 ((M 1 11) - (nI 1)) M
def f_X2_append (p1 : Int32) (M : Mem) : Option Rv := if (M 22 5) < (nI 60) then ((mst M 23 60 (M 22 5) (nc p1)).bind fun M2 => (mpi M2 22 5 ((M2 22 5) + (nI 1))).bind fun M3 => mrz (nI 1) M3) else mrz (nI 0) M
def f_X2_binding (p1 : Int32) (M : Mem) : Option Rv := if p1 = (nI 38) then (some ((nI 2), M)) else if p1 = (nI 82) then (some ((nI 3), M)) else if p1 = (nI 85) then (some ((nI 3), M)) else if p1 = (nI 124) then (some ((nI 1), M)) else some ((nI 0), M)
def f_X2_isBetween_12 (s0 : Int32) (M : Mem) : Option Rv := mrz s0 M
def f_X2_isBetween (p1 : Int32) (M : Mem) : Option Rv := (f_X2_binding p1 M).bind fun q1 => if (nI 0) < q1.1 then (f_X2_isBetween_12 (nI 1) q1.2) else f_X2_isBetween_12 (nI 0) q1.2
def f_X2_isInFront_35 (s0 : Int32) (M : Mem) : Option Rv := mrz s0 M
def f_X2_isInFront_30 (M : Mem) : Option Rv := f_X2_isInFront_35 (nI 1) M
def f_X2_isInFront (p1 : Int32) (M : Mem) : Option Rv := if p1 = (nI 33) then (f_X2_isInFront_30 M) else if p1 = (nI 88) then (f_X2_isInFront_30 M) else if p1 = (nI 78) then (f_X2_isInFront_30 M) else if p1 = (nI 71) then (f_X2_isInFront_30 M) else if p1 = (nI 70) then (f_X2_isInFront_30 M) else f_X2_isInFront_35 (nI 0) M
def f_X2_isValue_29 (s0 : Int32) (M : Mem) : Option Rv := mrz s0 M
def f_X2_isValue_24 (M : Mem) : Option Rv := f_X2_isValue_29 (nI 1) M
def f_X2_isValue_28 (M : Mem) : Option Rv := f_X2_isValue_29 (nI 0) M
def f_X2_isValue (p1 : Int32) (M : Mem) : Option Rv := if p1 = (nI 48) then (f_X2_isValue_24 M) else if p1 = (nI 49) then (f_X2_isValue_24 M) else if p1 < (nI 97) then (f_X2_isValue_28 M) else if (nI 102) < p1 then (f_X2_isValue_28 M) else f_X2_isValue_24 M
def f_X2_findFault_99 (k6 : Int32 → Int32 → Int32 → Mem → Option Rv) (x1 : Int32) (x2 : Int32) (x3 : Int32) (M : Mem) : Option Rv := k6 x1 x2 (x3 + nI 1) M
def f_X2_findFault_44 (k6 : Int32 → Int32 → Int32 → Mem → Option Rv) (x1 : Int32) (x2 : Int32) (x3 : Int32) (x4 : Int32) (M : Mem) : Option Rv := (f_X2_isValue x4 M).bind fun q1 => if q1.1 = (nI 0) then ((f_X2_isInFront x4 q1.2).bind fun q3 => if q3.1 = (nI 0) then (some (x3, q3.2)) else f_X2_findFault_99 k6 x1 x2 x3 q3.2) else f_X2_findFault_99 k6 (nI 0) x2 x3 q1.2
def f_X2_findFault_84 (k6 : Int32 → Int32 → Int32 → Mem → Option Rv) (x2 : Int32) (x3 : Int32) (x4 : Int32) (M : Mem) : Option Rv := (f_X2_isBetween x4 M).bind fun q1 => if q1.1 = (nI 0) then (some (x3, q1.2)) else f_X2_findFault_99 k6 (nI 1) x2 x3 q1.2
def f_X2_findFault_121 (s0 : Int32) (M : Mem) : Option Rv := some (s0, M)
def f_X2_findFault_113 (M : Mem) : Option Rv := f_X2_findFault_121 (M 22 5) M
def f_X2_findFault_6 : Nat → Int32 → Int32 → Int32 → Mem → Option Rv
  | 0, _, _, _, _ => none
  | n + 1, x1, x2, x3, M => if x3 < (M 22 5) then ((mrd M 23 60 x3).bind fun v4 => if x1 = (nI 0) then (if v4 = (nI 41) then (if (nI 0) < x2 then (f_X2_findFault_99 (f_X2_findFault_6 n) x1 (x2 - nI 1) x3 M) else f_X2_findFault_84 (f_X2_findFault_6 n) x2 x3 v4 M) else f_X2_findFault_84 (f_X2_findFault_6 n) x2 x3 v4 M) else if v4 = (nI 40) then (if x2 < (nI 4) then (f_X2_findFault_99 (f_X2_findFault_6 n) x1 (x2 + nI 1) x3 M) else f_X2_findFault_44 (f_X2_findFault_6 n) x1 x2 x3 v4 M) else f_X2_findFault_44 (f_X2_findFault_6 n) x1 x2 x3 v4 M) else if x1 = (nI 0) then (if (nI 0) < x2 then (f_X2_findFault_113 M) else f_X2_findFault_121 (-1) M) else f_X2_findFault_113 M
def f_X2_findFault (M : Mem) : Option Rv := f_X2_findFault_6 fuelN (nI 1) (nI 0) (nI 0) M
def f_X2_applyInFront_173 (k0 : Mem → Option Rv) (x2 : Int32) (M : Mem) : Option Rv := (mst M 24 60 ((M 22 6) - (nI 1)) x2).bind fun M1 => k0 M1
def f_X2_applyInFront_188 (M : Mem) : Option Rv := some (nI 0, M)
def f_X2_applyInFront_0 : Nat → Mem → Option Rv
  | 0, _ => none
  | n + 1, M => if (nI 0) < (M 22 7) then (if (nI 0) < (M 22 6) then ((mrd M 25 60 ((M 22 7) - (nI 1))).bind fun v3 => (f_X2_isInFront v3 M).bind fun q4 => if q4.1 = (nI 0) then (f_X2_applyInFront_188 q4.2) else (mpi q4.2 22 7 ((q4.2 22 7) - (nI 1))).bind fun M6 => (mrd M6 24 60 ((M6 22 6) - (nI 1))).bind fun v7 => (mrd M6 25 60 (M6 22 7)).bind fun v8 => if v8 = (nI 33) then ((f_X0_opposite v7 M6).bind fun q10 => f_X2_applyInFront_173 (f_X2_applyInFront_0 n) q10.1 q10.2) else if v8 = (nI 71) then ((f_X0_make (nI 19) (nI 0) v7 M6).bind fun q12 => f_X2_applyInFront_173 (f_X2_applyInFront_0 n) q12.1 q12.2) else if v8 = (nI 78) then ((f_X0_make (nI 17) v7 v7 M6).bind fun q14 => f_X2_applyInFront_173 (f_X2_applyInFront_0 n) q14.1 q14.2) else if v8 = (nI 88) then ((f_X0_make (nI 16) v7 v7 M6).bind fun q16 => f_X2_applyInFront_173 (f_X2_applyInFront_0 n) q16.1 q16.2) else (f_X0_make (nI 18) (nI 1) v7 M6).bind fun q17 => f_X2_applyInFront_173 (f_X2_applyInFront_0 n) q17.1 q17.2) else f_X2_applyInFront_188 M) else f_X2_applyInFront_188 M
def f_X2_applyInFront (M : Mem) : Option Rv := f_X2_applyInFront_0 fuelN M
def f_X2_await_29 (M : Mem) : Option Rv := some (nI 0, M)
def f_X2_await (p1 : Int32) (M : Mem) : Option Rv := if (M 22 7) < (nI 60) then ((mst M 25 60 (M 22 7) (nc p1)).bind fun M2 => (mpi M2 22 7 ((M2 22 7) + (nI 1))).bind fun M3 => f_X2_await_29 M3) else f_X2_await_29 M
def f_X2_combineDownTo_181 (k0 : Int32 → Mem → Option Rv) (x1 : Int32) (x4 : Int32) (M : Mem) : Option Rv := (mst M 24 60 ((M 22 6) - (nI 1)) x4).bind fun M1 => k0 x1 M1
def f_X2_combineDownTo_197 (M : Mem) : Option Rv := some (nI 0, M)
def f_X2_combineDownTo_0 : Nat → Int32 → Mem → Option Rv
  | 0, _, _ => none
  | n + 1, x1, M => if (nI 0) < (M 22 7) then (if (nI 1) < (M 22 6) then ((mrd M 25 60 ((M 22 7) - (nI 1))).bind fun v3 => (f_X2_binding v3 M).bind fun q4 => if q4.1 < x1 then (f_X2_combineDownTo_197 q4.2) else (mpi q4.2 22 7 ((q4.2 22 7) - (nI 1))).bind fun M6 => (mpi M6 22 6 ((M6 22 6) - (nI 1))).bind fun M7 => (mrd M7 24 60 ((M7 22 6) - (nI 1))).bind fun v8 => (mrd M7 24 60 (M7 22 6)).bind fun v9 => (mrd M7 25 60 (M7 22 7)).bind fun v10 => if v10 = (nI 38) then ((f_X0_two (nI 20) v8 v9 M7).bind fun q12 => f_X2_combineDownTo_181 (f_X2_combineDownTo_0 n) x1 q12.1 q12.2) else if v10 = (nI 82) then ((f_X0_make (nI 19) v8 v9 M7).bind fun q14 => f_X2_combineDownTo_181 (f_X2_combineDownTo_0 n) x1 q14.1 q14.2) else if v10 = (nI 85) then ((f_X0_make (nI 18) v8 v9 M7).bind fun q16 => f_X2_combineDownTo_181 (f_X2_combineDownTo_0 n) x1 q16.1 q16.2) else (f_X0_two (nI 21) v8 v9 M7).bind fun q17 => f_X2_combineDownTo_181 (f_X2_combineDownTo_0 n) x1 q17.1 q17.2) else f_X2_combineDownTo_197 M) else f_X2_combineDownTo_197 M
def f_X2_combineDownTo (p1 : Int32) (M : Mem) : Option Rv := f_X2_combineDownTo_0 fuelN p1 M
def f_X2_hold_29 (M : Mem) : Option Rv := some (nI 0, M)
def f_X2_hold (p1 : Int32) (M : Mem) : Option Rv := if (M 22 6) < (nI 60) then ((mst M 24 60 (M 22 6) p1).bind fun M2 => (mpi M2 22 6 ((M2 22 6) + (nI 1))).bind fun M3 => f_X2_hold_29 M3) else f_X2_hold_29 M
def f_X2_leastToCombine_25 (s0 : Int32) (M : Mem) : Option Rv := some (s0, M)
def f_X2_leastToCombine_12 (x0 : Int32) (M : Mem) : Option Rv := (f_X2_binding x0 M).bind fun q1 => f_X2_leastToCombine_25 (q1.1 + (nI 1)) q1.2
def f_X2_leastToCombine (p1 : Int32) (M : Mem) : Option Rv := if p1 = (nI 85) then (f_X2_leastToCombine_12 p1 M) else if p1 = (nI 82) then (f_X2_leastToCombine_12 p1 M) else (f_X2_binding p1 M).bind fun q3 => f_X2_leastToCombine_25 q3.1 q3.2
def f_X2_valueOf_26 (s0 : Int32) (M : Mem) : Option Rv := some (s0, M)
def f_X2_valueOf (p1 : Int32) (M : Mem) : Option Rv := if p1 = (nI 48) then (f_X2_valueOf_26 (nI 0) M) else if p1 = (nI 49) then (f_X2_valueOf_26 (nI 1) M) else f_X2_valueOf_26 ((nI 4) + (p1 - (nI 97))) M
def f_X2_read_108 (k12 : Int32 → Mem → Option Rv) (x1 : Int32) (M : Mem) : Option Rv := k12 (x1 + nI 1) M
def f_X2_read_78 (k12 : Int32 → Mem → Option Rv) (x1 : Int32) (s0 : Int32) (M : Mem) : Option Rv := (mpi M 22 7 s0).bind fun M1 => (f_X2_applyInFront M1).bind fun q2 => f_X2_read_108 k12 x1 q2.2
def f_X2_read_103 (k12 : Int32 → Mem → Option Rv) (x1 : Int32) (x2 : Int32) (M : Mem) : Option Rv := (f_X2_await x2 M).bind fun q1 => f_X2_read_108 k12 x1 q1.2
def f_X2_read_136 (s0 : Int32) (M : Mem) : Option Rv := some (s0, M)
def f_X2_read_12 : Nat → Int32 → Mem → Option Rv
  | 0, _, _ => none
  | n + 1, x1, M => if x1 < (M 22 5) then ((mrd M 23 60 x1).bind fun v5 => (f_X2_isValue v5 M).bind fun q6 => if q6.1 = (nI 0) then (if v5 = (nI 41) then ((f_X2_combineDownTo (nI 1) q6.2).bind fun q13 => if (nI 0) < (q13.2 22 7) then (f_X2_read_78 (f_X2_read_12 n) x1 ((q13.2 22 7) - (nI 1)) q13.2) else f_X2_read_78 (f_X2_read_12 n) x1 (nI 0) q13.2) else (f_X2_isBetween v5 q6.2).bind fun q9 => if q9.1 = (nI 0) then (f_X2_read_103 (f_X2_read_12 n) x1 v5 q9.2) else (f_X2_leastToCombine v5 q9.2).bind fun q11 => (f_X2_combineDownTo q11.1 q11.2).bind fun q12 => f_X2_read_103 (f_X2_read_12 n) x1 v5 q12.2) else (f_X2_valueOf v5 q6.2).bind fun q15 => (f_X2_hold q15.1 q15.2).bind fun q16 => (f_X2_applyInFront q16.2).bind fun q17 => f_X2_read_108 (f_X2_read_12 n) x1 q17.2) else (f_X2_combineDownTo (nI 1) M).bind fun q2 => if (nI 0) < (q2.2 22 6) then ((mrd q2.2 24 60 (nI 0)).bind fun v4 => f_X2_read_136 v4 q2.2) else f_X2_read_136 (nI 0) q2.2
def f_X2_read (M : Mem) : Option Rv := (mpi M 22 6 (nI 0)).bind fun M1 => (mpi M1 22 7 (nI 0)).bind fun M2 => f_X2_read_12 fuelN (nI 0) M2
def f_X3_load_85 (M : Mem) : Option Rv := some ((nI 0), M)
def f_X3_load_68 (k13 : Nat → Int32 → Int32 → Int32 → Mem → Option Rv) (x1 : Nat) (x2 : Int32) (x3 : Int32) (x4 : Int32) (x6 : Int32) (x7 : Int32) (M : Mem) : Option Rv := if (x3 + (x6 - (nI 1))) < (nI 0) then (f_X3_load_85 M) else if (x3 + (x6 - (nI 1))) < (nI 120) then ((mst M 18 120 (x3 + (x6 - (nI 1))) x7).bind fun M3 => k13 x1 x2 (x3 + (x6 - (nI 1))) (x4 - nI 1) M3) else f_X3_load_85 M
def f_X3_load_117 (s0 : Int32) (M : Mem) : Option Rv := some (s0, M)
def f_X3_load_13 : Nat → Nat → Int32 → Int32 → Int32 → Mem → Option Rv
  | 0, _, _, _, _, _ => none
  | n + 1, x1, x2, x3, x4, M => if x4 < (nI 0) then (if x3 < (nI 120) then ((mrd M 18 120 x3).bind fun v3 => f_X3_load_117 v3 M) else f_X3_load_117 (nI 0) M) else (mrd M (x1 + 2) 960 ((x2 * (nI 120)) + x4)).bind fun v4 => if (nI 0) < (v4 >>> ((nI 5) &&& nI 31)) then ((f_X1_make (v4 &&& (nI 31)) 18 x3 (v4 >>> ((nI 5) &&& nI 31)) M).bind fun q6 => f_X3_load_68 (f_X3_load_13 n) x1 x2 x3 x4 (v4 >>> ((nI 5) &&& nI 31)) q6.1 q6.2) else f_X3_load_68 (f_X3_load_13 n) x1 x2 x3 x4 (v4 >>> ((nI 5) &&& nI 31)) v4 M
def f_X3_load (p1 : Nat) (p2 : Int32) (M : Mem) : Option Rv := (mrd M (p1 + 1) 8 p2).bind fun v1 => f_X3_load_13 fuelN p1 p2 (nI 120) (v1 - (nI 1)) M
def f_X3_save_139 (k24 : Nat → Int32 → Int32 → Int32 → Int32 → Mem → Option Rv) (x2 : Nat) (x3 : Int32) (x4 : Int32) (x5 : Int32) (x6 : Int32) (M : Mem) : Option Rv := k24 x2 x3 x4 x5 (x6 + nI 1) M
def f_X3_save_100 (k24 : Nat → Int32 → Int32 → Int32 → Int32 → Mem → Option Rv) : Nat → Nat → Int32 → Int32 → Int32 → Int32 → Int32 → Int32 → Mem → Option Rv
  | 0, _, _, _, _, _, _, _, _ => none
  | n + 1, x2, x3, x4, x5, x6, x7, x9, M => if x9 < (nI 0) then (f_X3_save_139 k24 x2 x3 x4 x5 x6 M) else if x5 < (nI 120) then ((f_X1_kid x7 x9 M).bind fun q3 => (mst q3.2 18 120 x5 q3.1).bind fun M4 => f_X3_save_100 k24 n x2 x3 x4 (x5 + nI 1) x6 x7 (x9 - nI 1) M4) else f_X3_save_139 k24 x2 x3 x4 x5 x6 M
def f_X3_save_145 (x2 : Nat) (x3 : Int32) (x4 : Int32) (M : Mem) : Option Rv := (mst M (x2 + 1) 8 x3 x4).bind fun M1 => some (nI 0, M1)
def f_X3_save_24 : Nat → Nat → Int32 → Int32 → Int32 → Int32 → Mem → Option Rv
  | 0, _, _, _, _, _, _ => none
  | n + 1, x2, x3, x4, x5, x6, M => if x6 < x4 then (if x6 < (nI 120) then (if (nI 0) < x5 then ((mrd M 18 120 (x5 - nI 1)).bind fun v4 => (mrd M 4 2048 v4).bind fun v5 => (mrd M 2 2048 v4).bind fun v6 => (mst M (x2 + 2) 960 ((x3 * (nI 120)) + x6) (v6 ||| (v5 <<< ((nI 5) &&& nI 31)))).bind fun M7 => f_X3_save_100 (f_X3_save_24 n) fuelN x2 x3 x4 (x5 - nI 1) x6 v4 (v5 - (nI 1)) M7) else f_X3_save_145 x2 x3 x4 M) else f_X3_save_145 x2 x3 x4 M) else f_X3_save_145 x2 x3 x4 M
def f_X3_save (p1 : Int32) (p2 : Nat) (p3 : Int32) (M : Mem) : Option Rv := (mrd M 5 2048 p1).bind fun v1 => (mst M 18 120 (nI 0) p1).bind fun M2 => f_X3_save_24 fuelN p2 p3 v1 (nI 1) (nI 0) M2
def f_X3_write_30 (M : Mem) : Option Rv := some (nI 0, M)
def f_X3_write (p1 : Int32) (M : Mem) : Option Rv := if (M 17 5) < (nI 360) then ((mst M 19 360 (M 17 5) (nc p1)).bind fun M2 => (mpi M2 17 5 ((M2 17 5) + (nI 1))).bind fun M3 => f_X3_write_30 M3) else f_X3_write_30 M
def f_X3_spellBehindForm_0 : Nat → Mem → Option Rv
  | 0, _ => none
  | n + 1, M => if (nI 0) < (M 17 6) then ((mrd M 21 120 ((M 17 6) - (nI 1))).bind fun v2 => (mst M 21 120 ((M 17 6) - (nI 1)) (v2 - (nI 1))).bind fun M3 => (mrd M3 21 120 ((M 17 6) - (nI 1))).bind fun v4 => if (nI 0) < v4 then ((mrd M3 20 120 ((M 17 6) - (nI 1))).bind fun v8 => (f_X3_write v8 M3).bind fun q9 => some (nI 0, q9.2)) else (f_X3_write (nI 41) M3).bind fun q6 => (mpi q6.2 17 6 ((q6.2 17 6) - (nI 1))).bind fun M7 => f_X3_spellBehindForm_0 n M7) else some (nI 0, M)
def f_X3_spellBehindForm (M : Mem) : Option Rv := f_X3_spellBehindForm_0 fuelN M
def f_X3_spellLeaf_12 (x1 : Int32) (M : Mem) : Option Rv := (mrs llt 16 x1).bind fun v1 => (f_X3_write v1 M).bind fun q2 => some (nI 0, q2.2)
def f_X3_spellLeaf (p1 : Int32) (M : Mem) : Option Rv := if p1 < (nI 10) then (f_X3_spellLeaf_12 p1 M) else (f_X3_write (nI 45) M).bind fun q2 => f_X3_spellLeaf_12 p1 q2.2
def f_X3_spell_144 (k12 : Nat → Int32 → Int32 → Mem → Option Rv) (x1 : Nat) (x2 : Int32) (x3 : Int32) (M : Mem) : Option Rv := k12 x1 x2 (x3 + nI 1) M
def f_X3_spell_87 (k12 : Nat → Int32 → Int32 → Mem → Option Rv) (x1 : Nat) (x2 : Int32) (x3 : Int32) (s0 : Int32) (M : Mem) : Option Rv := (f_X3_write s0 M).bind fun q1 => f_X3_spell_144 k12 x1 x2 x3 q1.2
def f_X3_spell_12 : Nat → Nat → Int32 → Int32 → Mem → Option Rv
  | 0, _, _, _, _ => none
  | n + 1, x1, x2, x3, M => (mrd M (x1 + 1) 8 x2).bind fun v1 => if x3 < v1 then ((mrd M (x1 + 2) 960 ((x2 * (nI 120)) + x3)).bind fun v3 => if (v3 >>> ((nI 5) &&& nI 31)) = (nI 0) then ((f_X3_spellLeaf (v3 &&& (nI 31)) M).bind fun q13 => (f_X3_spellBehindForm q13.2).bind fun q14 => f_X3_spell_144 (f_X3_spell_12 n) x1 x2 x3 q14.2) else if (v3 >>> ((nI 5) &&& nI 31)) = (nI 1) then (if (v3 &&& (nI 31)) = (nI 16) then (f_X3_spell_87 (f_X3_spell_12 n) x1 x2 x3 (nI 88) M) else f_X3_spell_87 (f_X3_spell_12 n) x1 x2 x3 (nI 78) M) else if (M 17 6) < (nI 120) then ((f_X3_write (nI 40) M).bind fun q7 => (mrs sepf 22 (v3 &&& (nI 31))).bind fun v8 => (mst q7.2 20 120 (q7.2 17 6) (nc v8)).bind fun M9 => (mst M9 21 120 (M9 17 6) (v3 >>> ((nI 5) &&& nI 31))).bind fun M10 => (mpi M10 17 6 ((M10 17 6) + (nI 1))).bind fun M11 => f_X3_spell_144 (f_X3_spell_12 n) x1 x2 x3 M11) else f_X3_spell_144 (f_X3_spell_12 n) x1 x2 x3 M) else some (M 17 5, M)
def f_X3_spell (p1 : Nat) (p2 : Int32) (M : Mem) : Option Rv := (mpi M 17 5 (nI 0)).bind fun M1 => (mpi M1 17 6 (nI 0)).bind fun M2 => f_X3_spell_12 fuelN p1 p2 (nI 0) M2
def f_X5_copyFrom_50 : Nat → Nat → Nat → Int32 → Mem → Option Rv
  | 0, _, _, _, _ => none
  | n + 1, x0, x1, x2, M => if x2 < (M x0 2) then ((mrd M (x1 + 1) 8 x2).bind fun v2 => (mst M (x0 + 1) 8 x2 v2).bind fun M3 => (mrd M3 (x0 + 1) 8 x2).bind fun v4 => (mcp M3 (x1 + 2) 960 (x0 + 2) 960 (x2 * (nI 120)) (x2 * (nI 120)) v4).bind fun M5 => f_X5_copyFrom_50 n x0 x1 (x2 + nI 1) M5) else some (nI 0, M)
def f_X5_copyFrom (c0 : Nat) (p1 : Nat) (M : Mem) : Option Rv := (mpz M c0 0 (M p1 0)).bind fun M1 => (mpi M1 c0 1 (M1 p1 1)).bind fun M2 => (mpi M2 c0 2 (M2 p1 2)).bind fun M3 => (mpi M3 c0 3 (M3 p1 3)).bind fun M4 => (mpi M4 c0 4 (M4 p1 4)).bind fun M5 => (mpi M5 c0 5 (M5 p1 5)).bind fun M6 => f_X5_copyFrom_50 fuelN c0 p1 (nI 0) M6
def f_X4_copyFrom_43 : Nat → Nat → Nat → Int32 → Mem → Option Rv
  | 0, _, _, _, _ => none
  | n + 1, x0, x1, x2, M => if x2 < (M x0 2) then ((mlW x0 x2).bind fun c2 => (mlW x1 x2).bind fun c3 => (f_X5_copyFrom c2 c3 M).bind fun q4 => f_X4_copyFrom_43 n x0 x1 (x2 + nI 1) q4.2) else some (nI 0, M)
def f_X4_copyFrom (c0 : Nat) (p1 : Nat) (M : Mem) : Option Rv := (mpz M c0 0 (M p1 0)).bind fun M1 => (mpi M1 c0 1 (M1 p1 1)).bind fun M2 => (mpi M2 c0 2 (M2 p1 2)).bind fun M3 => (mcp M3 (p1 + 1) 40 (c0 + 1) 40 (nI 0) (nI 0) (M3 c0 1)).bind fun M4 => f_X4_copyFrom_43 fuelN c0 p1 (nI 0) M4
def f_X4_find_24 (M : Mem) : Option Rv := some (nI 0, M)
def f_X4_find (c0 : Nat) (p1 : Int32) (M : Mem) : Option Rv := if p1 < (nI 0) then (f_X4_find_24 M) else if p1 < (M c0 2) then ((mlW c0 p1).bind fun c3 => if (M c3 0) = (nI 0) then (f_X4_find_24 M) else (mlW c0 p1).bind fun c5 => some (nI c5, M)) else f_X4_find_24 M
def f_X4_isOpen_30 (s0 : Int32) (M : Mem) : Option Rv := mrz s0 M
def f_X4_isOpen_29 (M : Mem) : Option Rv := f_X4_isOpen_30 (nI 0) M
def f_X4_isOpen (c0 : Nat) (p1 : Int32) (M : Mem) : Option Rv := (mlW c0 p1).bind fun c1 => if (M c1 0) = (nI 0) then (f_X4_isOpen_29 M) else (mlW c0 p1).bind fun c3 => if (M c3 1) = (nI 2) then (f_X4_isOpen_30 (nI 1) M) else f_X4_isOpen_29 M
def f_X5_sizeOfParts_4 : Nat → Nat → Int32 → Int32 → Mem → Option Rv
  | 0, _, _, _, _ => none
  | n + 1, x0, x1, x2, M => if x2 < (M x0 2) then ((mrd M (x0 + 1) 8 x2).bind fun v2 => f_X5_sizeOfParts_4 n x0 (x1 + v2) (x2 + nI 1) M) else some (x1, M)
def f_X5_sizeOfParts (c0 : Nat) (M : Mem) : Option Rv := f_X5_sizeOfParts_4 fuelN c0 (nI 0) (nI 0) M
def f_X4_rankOfOpen_66 (k15 : Nat → Int32 → Int32 → Int32 → Int32 → Mem → Option Rv) (x0 : Nat) (x1 : Int32) (x2 : Int32) (x3 : Int32) (x4 : Int32) (M : Mem) : Option Rv := k15 x0 x1 x2 x3 (x4 + nI 1) M
def f_X4_rankOfOpen_63 (k15 : Nat → Int32 → Int32 → Int32 → Int32 → Mem → Option Rv) (x0 : Nat) (x1 : Int32) (x2 : Int32) (x3 : Int32) (x4 : Int32) (M : Mem) : Option Rv := f_X4_rankOfOpen_66 k15 x0 x1 x2 (x3 + nI 1) x4 M
def f_X4_rankOfOpen_15 : Nat → Nat → Int32 → Int32 → Int32 → Int32 → Mem → Option Rv
  | 0, _, _, _, _, _, _ => none
  | n + 1, x0, x1, x2, x3, x4, M => if x4 < (M x0 2) then ((mlW x0 x4).bind fun c2 => (f_X5_sizeOfParts c2 M).bind fun q3 => (f_X4_isOpen x0 x4 q3.2).bind fun q4 => if q4.1 = (nI 0) then (f_X4_rankOfOpen_66 (f_X4_rankOfOpen_15 n) x0 x1 x2 x3 x4 q4.2) else if x2 < q3.1 then (f_X4_rankOfOpen_63 (f_X4_rankOfOpen_15 n) x0 x1 x2 x3 x4 q4.2) else if q3.1 = x2 then (if x4 < x1 then (f_X4_rankOfOpen_63 (f_X4_rankOfOpen_15 n) x0 x1 x2 x3 x4 q4.2) else f_X4_rankOfOpen_66 (f_X4_rankOfOpen_15 n) x0 x1 x2 x3 x4 q4.2) else f_X4_rankOfOpen_66 (f_X4_rankOfOpen_15 n) x0 x1 x2 x3 x4 q4.2) else some (x3, M)
def f_X4_rankOfOpen (c0 : Nat) (p1 : Int32) (M : Mem) : Option Rv := (mlW c0 p1).bind fun c1 => (f_X5_sizeOfParts c1 M).bind fun q2 => f_X4_rankOfOpen_15 fuelN c0 p1 q2.1 (nI 0) (nI 0) q2.2
def f_X4_howMany_40 (k4 : Nat → Int32 → Int32 → Int32 → Mem → Option Rv) (x0 : Nat) (x1 : Int32) (x2 : Int32) (x3 : Int32) (M : Mem) : Option Rv := k4 x0 x1 x2 (x3 + nI 1) M
def f_X4_howMany_4 : Nat → Nat → Int32 → Int32 → Int32 → Mem → Option Rv
  | 0, _, _, _, _, _ => none
  | n + 1, x0, x1, x2, x3, M => if x3 < (M x0 2) then ((mlW x0 x3).bind fun c2 => if (M c2 0) = (nI 0) then (f_X4_howMany_40 (f_X4_howMany_4 n) x0 x1 x2 x3 M) else (mlW x0 x3).bind fun c4 => if (M c4 1) = x1 then (f_X4_howMany_40 (f_X4_howMany_4 n) x0 x1 (x2 + nI 1) x3 M) else f_X4_howMany_40 (f_X4_howMany_4 n) x0 x1 x2 x3 M) else some (x2, M)
def f_X4_howMany (c0 : Nat) (p1 : Int32) (M : Mem) : Option Rv := f_X4_howMany_4 fuelN c0 p1 (nI 0) (nI 0) M
def f_X4_howManyThere (c0 : Nat) (M : Mem) : Option Rv := (f_X4_howMany c0 (nI 0) M).bind fun q1 => (f_X4_howMany c0 (nI 1) q1.2).bind fun q2 => (f_X4_howMany c0 (nI 2) q2.2).bind fun q3 => some ((q1.1 + q2.1) + q3.1, q3.2)
def f_X5_partsThatAre_31 (k4 : Nat → Int32 → Int32 → Int32 → Mem → Option Rv) (x0 : Nat) (x1 : Int32) (x2 : Int32) (x3 : Int32) (M : Mem) : Option Rv := k4 x0 x1 x2 (x3 + nI 1) M
def f_X5_partsThatAre_4 : Nat → Nat → Int32 → Int32 → Int32 → Mem → Option Rv
  | 0, _, _, _, _, _ => none
  | n + 1, x0, x1, x2, x3, M => if x3 < (M x0 2) then ((mrd M (x0 + 2) 960 (x3 * (nI 120))).bind fun v2 => if v2 = x1 then (f_X5_partsThatAre_31 (f_X5_partsThatAre_4 n) x0 x1 (x2 ||| ((nI 1) <<< (x3 &&& nI 31))) x3 M) else f_X5_partsThatAre_31 (f_X5_partsThatAre_4 n) x0 x1 x2 x3 M) else some (x2, M)
def f_X5_partsThatAre (c0 : Nat) (p1 : Int32) (M : Mem) : Option Rv := f_X5_partsThatAre_4 fuelN c0 p1 (nI 0) (nI 0) M
def f_X5_verdictOfParts_31 (s0 : Int32) (M : Mem) : Option Rv := some (s0, M)
def f_X5_verdictOfParts (c0 : Nat) (M : Mem) : Option Rv := (f_X5_partsThatAre c0 (nI 0) M).bind fun q1 => if q1.1 = (nI 0) then ((f_X5_partsThatAre c0 (nI 1) q1.2).bind fun q3 => if q3.1 = (((nI 1) <<< ((q3.2 c0 2) &&& nI 31)) - (nI 1)) then (f_X5_verdictOfParts_31 (nI 1) q3.2) else f_X5_verdictOfParts_31 (nI 2) q3.2) else some ((nI 0), q1.2)
def f_X5_come (c0 : Nat) (p1 : Int32) (p2 : Int32) (M : Mem) : Option Rv := (mpz M c0 0 (nI 1)).bind fun M1 => (mpi M1 c0 2 p1).bind fun M2 => (f_X5_verdictOfParts c0 M2).bind fun q3 => (mpi q3.2 c0 1 q3.1).bind fun M4 => (mpi M4 c0 3 (-5)).bind fun M5 => (mpi M5 c0 4 (nI 0)).bind fun M6 => (mpi M6 c0 5 p2).bind fun M7 => some (nI 0, M7)
def f_X5_judge (c0 : Nat) (p1 : Int32) (M : Mem) : Option Rv := (f_X5_verdictOfParts c0 M).bind fun q1 => (mpi q1.2 c0 1 q1.1).bind fun M2 => if (M2 c0 1) = (nI 2) then (mrz (nI 0) M2) else (mpi M2 c0 3 p1).bind fun M4 => mrz (nI 1) M4
def f_X6_recordAndGoOn_88 (x1 : Nat) (M : Mem) : Option Rv := (mlS (M 0 9)).bind fun c1 => (mpi M 0 8 (nI c1)).bind fun M2 => (mpi M2 0 9 (nI x1)).bind fun M3 => some (nI 0, M3)
def f_X6_recordAndGoOn_53 : Nat → Nat → Int32 → Mem → Option Rv
  | 0, _, _, _ => none
  | n + 1, x1, x2, M => if x2 < (nI 4) then ((mrd M 28 4 x2).bind fun v6 => (mlS v6).bind fun c4 => (mst M 28 4 (x2 - (nI 1)) (nI c4)).bind fun M5 => f_X6_recordAndGoOn_53 n x1 (x2 + nI 1) M5) else (mlS (M 0 8)).bind fun c2 => (mst M 28 4 (nI 3) (nI c2)).bind fun M3 => f_X6_recordAndGoOn_88 x1 M3
def f_X6_recordAndGoOn (M : Mem) : Option Rv := if (M 0 10) < (nI 4) then ((mrd M 28 4 (M 0 10)).bind fun v8 => (mlS v8).bind fun c4 => (mlS (M 0 8)).bind fun c5 => (mst M 28 4 (M 0 10) (nI c5)).bind fun M6 => (mpi M6 0 10 ((M6 0 10) + (nI 1))).bind fun M7 => f_X6_recordAndGoOn_88 c4 M7) else (mrd M 28 4 (nI 0)).bind fun v3 => (mlS v3).bind fun c2 => f_X6_recordAndGoOn_53 fuelN c2 (nI 1) M
def f_X6_loadAlone (p1 : Nat) (p2 : Int32) (M : Mem) : Option Rv := (f_X1_release (nI 16) M).bind fun q1 => (f_X3_load p1 p2 q1.2).bind fun q2 => some (q2.1, q2.2)
def f_X6_rewriteParts_3 : Nat → Nat → Nat → Int32 → Int32 → Mem → Option Rv
  | 0, _, _, _, _, _ => none
  | n + 1, x1, x2, x3, x4, M => if x4 < (M x1 2) then ((f_X6_loadAlone x1 x4 M).bind fun q2 => (f_X0_behind q2.1 x3 q2.2).bind fun q3 => (mrd q3.2 5 2048 q3.1).bind fun v4 => if (nI 120) < v4 then (mrz (nI 0) q3.2) else (f_X3_save q3.1 x2 x4 q3.2).bind fun q6 => f_X6_rewriteParts_3 n x1 x2 x3 (x4 + nI 1) q6.2) else mrz (nI 1) M
def f_X6_rewriteParts (p1 : Nat) (p2 : Nat) (p3 : Int32) (M : Mem) : Option Rv := f_X6_rewriteParts_3 fuelN p1 p2 p3 (nI 0) M
def f_X6_verdictOfForm_18 (s0 : Int32) (M : Mem) : Option Rv := some (s0, M)
def f_X6_verdictOfForm (p1 : Int32) (M : Mem) : Option Rv := if p1 = (nI 0) then (f_X6_verdictOfForm_18 (nI 0) M) else if p1 = (nI 1) then (f_X6_verdictOfForm_18 (nI 1) M) else f_X6_verdictOfForm_18 (nI 2) M
def f_X6_worse_8 (M : Mem) : Option Rv := some ((nI 0), M)
def f_X6_worse_25 (s0 : Int32) (M : Mem) : Option Rv := some (s0, M)
def f_X6_worse_20 (M : Mem) : Option Rv := f_X6_worse_25 (nI 2) M
def f_X6_worse (p1 : Int32) (p2 : Int32) (M : Mem) : Option Rv := if p1 = (nI 0) then (f_X6_worse_8 M) else if p2 = (nI 0) then (f_X6_worse_8 M) else if p1 = (nI 2) then (f_X6_worse_20 M) else if p2 = (nI 2) then (f_X6_worse_20 M) else f_X6_worse_25 (nI 1) M
def f_X6_verdictBehind_64 (x3 : Int32) (M : Mem) : Option Rv := some (x3, M)
def f_X6_verdictBehind_18 : Nat → Nat → Int32 → Int32 → Int32 → Mem → Option Rv
  | 0, _, _, _, _, _ => none
  | n + 1, x1, x2, x3, x4, M => if x4 < (M x1 2) then (if x3 = (nI 0) then (f_X6_verdictBehind_64 x3 M) else (f_X6_loadAlone x1 x4 M).bind fun q3 => (f_X0_behind q3.1 x2 q3.2).bind fun q4 => (f_X6_verdictOfForm q4.1 q4.2).bind fun q5 => (f_X6_worse x3 q5.1 q5.2).bind fun q6 => f_X6_verdictBehind_18 n x1 x2 q6.1 (x4 + nI 1) q6.2) else f_X6_verdictBehind_64 x3 M
def f_X6_verdictBehind (p1 : Nat) (p2 : Int32) (M : Mem) : Option Rv := if (M p1 1) = (nI 2) then (f_X6_verdictBehind_18 fuelN p1 p2 (nI 1) (nI 0) M) else some (M p1 1, M)
def f_X6_signsToBlame_33 (k5 : Nat → Int32 → Int32 → Int32 → Mem → Option Rv) (x1 : Nat) (x2 : Int32) (x3 : Int32) (x4 : Int32) (M : Mem) : Option Rv := k5 x1 x2 x3 (x4 + nI 1) M
def f_X6_signsToBlame_5 : Nat → Nat → Int32 → Int32 → Int32 → Mem → Option Rv
  | 0, _, _, _, _, _ => none
  | n + 1, x1, x2, x3, x4, M => if x4 < (nI 6) then ((f_X6_verdictBehind x1 (x2 ^^^ ((nI 1) <<< (x4 &&& nI 31))) M).bind fun q2 => if q2.1 = (nI 0) then (f_X6_signsToBlame_33 (f_X6_signsToBlame_5 n) x1 x2 x3 x4 q2.2) else f_X6_signsToBlame_33 (f_X6_signsToBlame_5 n) x1 x2 (x3 ||| ((nI 1) <<< (x4 &&& nI 31))) x4 q2.2) else some (x3, M)
def f_X6_signsToBlame (p1 : Nat) (p2 : Int32) (M : Mem) : Option Rv := f_X6_signsToBlame_5 fuelN p1 p2 (nI 0) (nI 0) M
def f_X6_event_10 (M : Mem) : Option Rv := some ((-2), M)
def f_X6_event_166 (k59 : Int32 → Nat → Int32 → Int32 → Mem → Option Rv) (x1 : Int32) (x2 : Nat) (x3 : Int32) (x4 : Int32) (M : Mem) : Option Rv := k59 x1 x2 x3 (x4 + nI 1) M
def f_X6_event_160 (k59 : Int32 → Nat → Int32 → Int32 → Mem → Option Rv) (x1 : Int32) (x2 : Nat) (x3 : Int32) (x4 : Int32) (s0 : Int32) (s1 : Nat) (M : Mem) : Option Rv := (mpi M s1 4 s0).bind fun M1 => f_X6_event_166 k59 x1 x2 (x3 + nI 1) x4 M1
def f_X6_event_59 : Nat → Int32 → Nat → Int32 → Int32 → Mem → Option Rv
  | 0, _, _, _, _, _ => none
  | n + 1, x1, x2, x3, x4, M => (mlS (M 0 8)).bind fun c1 => if x4 < (M c1 2) then ((mlS (M 0 8)).bind fun c6 => (mlW c6 x4).bind fun c7 => (mlW x2 x4).bind fun c8 => if (M c7 0) = (nI 0) then (f_X6_event_166 (f_X6_event_59 n) x1 x2 x3 x4 M) else (f_X6_rewriteParts c7 c8 x1 M).bind fun q10 => if q10.1 = (nI 0) then (some ((-3), q10.2)) else if (q10.2 c7 1) = (nI 2) then ((mlS (q10.2 0 8)).bind fun c13 => (f_X5_judge c8 (q10.2 c13 1) q10.2).bind fun q14 => if q14.1 = (nI 0) then (f_X6_event_166 (f_X6_event_59 n) x1 x2 x3 x4 q14.2) else if (q14.2 c8 1) = (nI 0) then ((f_X6_signsToBlame c7 x1 q14.2).bind fun q17 => f_X6_event_160 (f_X6_event_59 n) x1 x2 x3 x4 q17.1 c8 q17.2) else f_X6_event_160 (f_X6_event_59 n) x1 x2 x3 x4 (nI 0) c8 q14.2) else f_X6_event_166 (f_X6_event_59 n) x1 x2 x3 x4 q10.2) else (mst M (x2 + 1) 40 (M x2 1) x1).bind fun M3 => (mpi M3 x2 1 ((M3 x2 1) + (nI 1))).bind fun M4 => (f_X6_recordAndGoOn M4).bind fun q5 => some (x3, q5.2)
def f_X6_event (p1 : Int32) (M : Mem) : Option Rv := if p1 < (nI 0) then (f_X6_event_10 M) else if p1 < (nI 64) then ((mlS (M 0 8)).bind fun c3 => if (M c3 0) = (nI 0) then ((mlS (M 0 8)).bind fun c5 => if (M c5 1) < (nI 40) then ((mlS (M 0 9)).bind fun c7 => (mlS (M 0 8)).bind fun c8 => (f_X4_copyFrom c7 c8 M).bind fun q9 => f_X6_event_59 fuelN p1 c7 (nI 0) (nI 0) q9.2) else some ((-3), M)) else some ((-4), M)) else f_X6_event_10 M
def f_X6_endParts_38 (k2 : Nat → Int32 → Mem → Option Rv) (x1 : Nat) (x2 : Int32) (s0 : Int32) (M : Mem) : Option Rv := (f_X3_save s0 x1 x2 M).bind fun q1 => k2 x1 (x2 + nI 1) q1.2
def f_X6_endParts_2 : Nat → Nat → Int32 → Mem → Option Rv
  | 0, _, _, _ => none
  | n + 1, x1, x2, M => if x2 < (M x1 2) then ((f_X6_loadAlone x1 x2 M).bind fun q2 => (mrd q2.2 7 2048 q2.1).bind fun v3 => if v3 = (nI 0) then (f_X6_endParts_38 (f_X6_endParts_2 n) x1 x2 (nI 0) q2.2) else f_X6_endParts_38 (f_X6_endParts_2 n) x1 x2 (nI 1) q2.2) else some (nI 0, M)
def f_X6_endParts (p1 : Nat) (M : Mem) : Option Rv := f_X6_endParts_2 fuelN p1 (nI 0) M
def f_X6_end_92 (k35 : Nat → Int32 → Int32 → Mem → Option Rv) (x1 : Nat) (x2 : Int32) (x3 : Int32) (M : Mem) : Option Rv := k35 x1 x2 (x3 + nI 1) M
def f_X6_end_35 : Nat → Nat → Int32 → Int32 → Mem → Option Rv
  | 0, _, _, _, _ => none
  | n + 1, x1, x2, x3, M => if x3 < (M x1 2) then ((mlW x1 x3).bind fun c3 => if (M c3 0) = (nI 0) then (f_X6_end_92 (f_X6_end_35 n) x1 x2 x3 M) else if (M c3 1) = (nI 2) then ((f_X6_endParts c3 M).bind fun q6 => (f_X5_verdictOfParts c3 q6.2).bind fun q7 => (mpi q7.2 c3 1 q7.1).bind fun M8 => f_X6_end_92 (f_X6_end_35 n) x1 (x2 + (M8 c3 1)) x3 M8) else f_X6_end_92 (f_X6_end_35 n) x1 x2 x3 M) else (f_X6_recordAndGoOn M).bind fun q2 => some (x2, q2.2)
def f_X6_end (M : Mem) : Option Rv := (mlS (M 0 8)).bind fun c1 => if (M c1 0) = (nI 0) then ((mlS (M 0 9)).bind fun c3 => (mlS (M 0 8)).bind fun c4 => (f_X4_copyFrom c3 c4 M).bind fun q5 => (mpz q5.2 c3 0 (nI 1)).bind fun M6 => f_X6_end_35 fuelN c3 (nI 0) (nI 0) M6) else some ((-4), M)
def f_X6_bring_60 (M : Mem) : Option Rv := some ((-3), M)
def f_X6_bring_113 (k89 : Int32 → Int32 → Int32 → Int32 → Nat → Int32 → Mem → Option Rv) (x1 : Int32) (x2 : Int32) (x3 : Int32) (x4 : Int32) (x5 : Nat) (x6 : Int32) (s0 : Int32) (M : Mem) : Option Rv := (mrd M 5 2048 s0).bind fun v1 => if (nI 120) < v1 then (some ((-3), M)) else (f_X3_save s0 x5 x6 M).bind fun q3 => k89 x1 x2 x3 x4 x5 (x6 + nI 1) q3.2
def f_X6_bring_89 : Nat → Int32 → Int32 → Int32 → Int32 → Nat → Int32 → Mem → Option Rv
  | 0, _, _, _, _, _, _, _ => none
  | n + 1, x1, x2, x3, x4, x5, x6, M => if x6 < x3 then (if x2 = (nI 0) then (f_X6_bring_113 (f_X6_bring_89 n) x1 x2 x3 x4 x5 x6 x1 M) else (f_X1_kid x1 x6 M).bind fun q8 => f_X6_bring_113 (f_X6_bring_89 n) x1 x2 x3 x4 x5 x6 q8.1 q8.2) else (mlS (M 0 8)).bind fun c2 => (f_X5_come x5 x3 (M c2 1) M).bind fun q3 => (mlS (q3.2 0 9)).bind fun c4 => (mpi q3.2 c4 2 ((q3.2 c4 2) + (nI 1))).bind fun M5 => (f_X6_recordAndGoOn M5).bind fun q6 => some (x4, q6.2)
def f_X6_bring_37 (x1 : Int32) (x2 : Int32) (s0 : Int32) (M : Mem) : Option Rv := (mlS (M 0 8)).bind fun c1 => if (M c1 2) < (nI 8) then (if (nI 8) < s0 then (f_X6_bring_60 M) else (mlS (M 0 9)).bind fun c4 => (mlS (M 0 8)).bind fun c5 => (f_X4_copyFrom c4 c5 M).bind fun q6 => (mlS (q6.2 0 9)).bind fun c7 => (mlW c7 (M c1 2)).bind fun c8 => f_X6_bring_89 fuelN x1 x2 s0 (M c1 2) c8 (nI 0) q6.2) else f_X6_bring_60 M
def f_X6_bring_19 (x1 : Int32) (s0 : Int32) (M : Mem) : Option Rv := if s0 = (nI 0) then (f_X6_bring_37 x1 s0 (nI 1) M) else (mrd M 4 2048 x1).bind fun v2 => f_X6_bring_37 x1 s0 v2 M
def f_X6_bring (p1 : Int32) (M : Mem) : Option Rv := (mrd M 2 2048 p1).bind fun v1 => if v1 = (nI 20) then (f_X6_bring_19 p1 (nI 1) M) else f_X6_bring_19 p1 (nI 0) M
def f_X6_addWish (M : Mem) : Option Rv := (f_X2_findFault M).bind fun q1 => if q1.1 < (nI 0) then ((mlS (q1.2 0 8)).bind fun c3 => if (q1.2 c3 0) = (nI 0) then ((f_X1_release (nI 16) q1.2).bind fun q5 => (f_X2_read q5.2).bind fun q6 => (f_X6_bring q6.1 q6.2).bind fun q7 => some (q7.1, q7.2)) else some ((-4), q1.2)) else some ((-100) - q1.1, q1.2)
def f_X6_allOfParts_11 : Nat → Nat → Int32 → Mem → Option Rv
  | 0, _, _, _ => none
  | n + 1, x1, x2, M => if x2 < (M x1 2) then ((f_X3_load x1 x2 M).bind fun q3 => (f_X0_put q3.1 q3.2).bind fun q4 => f_X6_allOfParts_11 n x1 (x2 + nI 1) q4.2) else (f_X0_done M).bind fun q2 => some (q2.1, q2.2)
def f_X6_allOfParts (p1 : Nat) (M : Mem) : Option Rv := (f_X0_begin (nI 20) M).bind fun q1 => f_X6_allOfParts_11 fuelN p1 (nI 0) q1.2
def f_X6_join_30 (M : Mem) : Option Rv := some ((-1), M)
def f_X6_join_86 (x6 : Int32) (x7 : Int32) (s0 : Int32) (M : Mem) : Option Rv := (f_X0_two s0 x6 x7 M).bind fun q1 => (f_X6_bring q1.1 q1.2).bind fun q2 => some (q2.1, q2.2)
def f_X6_join (p1 : Int32) (p2 : Int32) (p3 : Int32) (M : Mem) : Option Rv := (mlS (M 0 8)).bind fun c1 => (f_X4_find c1 p1 M).bind fun q2 => (mlS (q2.2 0 8)).bind fun c3 => (f_X4_find c3 p2 q2.2).bind fun q4 => if q2.1 = nI 0 then (f_X6_join_30 q4.2) else if q4.1 = nI 0 then (f_X6_join_30 q4.2) else (mlS (q4.2 0 8)).bind fun c7 => if (q4.2 c7 0) = (nI 0) then ((f_X1_release (nI 16) q4.2).bind fun q9 => (maW q2.1).bind fun c10 => (f_X6_allOfParts c10 q9.2).bind fun q11 => (maW q4.1).bind fun c12 => (f_X6_allOfParts c12 q11.2).bind fun q13 => if p3 = (nI 0) then (f_X6_join_86 q11.1 q13.1 (nI 20) q13.2) else f_X6_join_86 q11.1 q13.1 (nI 21) q13.2) else some ((-4), q4.2)
def f_X6_removeWish (p1 : Int32) (M : Mem) : Option Rv := (mlS (M 0 8)).bind fun c1 => (f_X4_find c1 p1 M).bind fun q2 => if q2.1 = nI 0 then (some ((-1), q2.2)) else (mlS (q2.2 0 9)).bind fun c4 => (mlS (q2.2 0 8)).bind fun c5 => (f_X4_copyFrom c4 c5 q2.2).bind fun q6 => (mlW c4 p1).bind fun c7 => (mpz q6.2 c7 0 (nI 0)).bind fun M8 => (f_X6_recordAndGoOn M8).bind fun q9 => (mlS (q9.2 0 8)).bind fun c10 => (f_X4_howManyThere c10 q9.2).bind fun q11 => some (q11.1, q11.2)
def f_X6_type_23 (s0 : Int32) (M : Mem) : Option Rv := some (s0, M)
def f_X6_type (p1 : Int32) (M : Mem) : Option Rv := (f_X2_append p1 M).bind fun q1 => if q1.1 = (nI 0) then (f_X6_type_23 (-3) q1.2) else f_X6_type_23 (q1.2 22 5) q1.2
def f_X6_clearText (M : Mem) : Option Rv := (mpi M 22 5 (nI 0)).bind fun M1 => some (M 22 5, M1)
def f_X6_undo (M : Mem) : Option Rv := if (M 0 10) = (nI 0) then (some ((-5), M)) else (mpi M 0 10 ((M 0 10) - (nI 1))).bind fun M2 => (mrd M2 28 4 (M2 0 10)).bind fun v7 => (mlS v7).bind fun c3 => (mlS (M2 0 8)).bind fun c4 => (mst M2 28 4 (M2 0 10) (nI c4)).bind fun M5 => (mpi M5 0 8 (nI c3)).bind fun M6 => some (M6 0 10, M6)
def f_X6_keep (M : Mem) : Option Rv := (mlS (M 0 8)).bind fun c1 => (f_X4_copyFrom 29 c1 M).bind fun q2 => (mpz q2.2 0 11 (nI 1)).bind fun M3 => (mlS (M3 0 8)).bind fun c4 => some (M3 c4 1, M3)
def f_X6_restore (M : Mem) : Option Rv := if (M 0 11) = (nI 0) then (some ((-5), M)) else (mlS (M 0 9)).bind fun c2 => (f_X4_copyFrom c2 29 M).bind fun q3 => (f_X6_recordAndGoOn q3.2).bind fun q4 => (mlS (q4.2 0 8)).bind fun c5 => some (q4.2 c5 1, q4.2)
def f_X6_verdictIfEnded_15 : Nat → Nat → Int32 → Mem → Option Rv
  | 0, _, _, _ => none
  | n + 1, x1, x2, M => if x2 < (M x1 2) then ((f_X6_loadAlone x1 x2 M).bind fun q2 => (mrd q2.2 7 2048 q2.1).bind fun v3 => if v3 = (nI 0) then (some ((nI 0), q2.2)) else f_X6_verdictIfEnded_15 n x1 (x2 + nI 1) q2.2) else some ((nI 1), M)
def f_X6_verdictIfEnded (p1 : Nat) (M : Mem) : Option Rv := if (M p1 1) = (nI 2) then (f_X6_verdictIfEnded_15 fuelN p1 (nI 0) M) else some (M p1 1, M)
def f_X6_wish (p1 : Int32) (p2 : Int32) (M : Mem) : Option Rv := (mlS (M 0 8)).bind fun c1 => (f_X4_find c1 p1 M).bind fun q2 => if q2.1 = nI 0 then (some ((-1), q2.2)) else if p2 = (nI 0) then ((maW q2.1).bind fun c5 => some (q2.2 c5 1, q2.2)) else if p2 = (nI 1) then ((maW q2.1).bind fun c7 => some (q2.2 c7 2, q2.2)) else if p2 = (nI 2) then ((maW q2.1).bind fun c9 => (f_X5_partsThatAre c9 (nI 0) q2.2).bind fun q10 => some (q10.1, q10.2)) else if p2 = (nI 3) then ((maW q2.1).bind fun c12 => (f_X5_partsThatAre c12 (nI 1) q2.2).bind fun q13 => some (q13.1, q13.2)) else if p2 = (nI 4) then ((maW q2.1).bind fun c15 => some (q2.2 c15 3, q2.2)) else if p2 = (nI 5) then ((maW q2.1).bind fun c17 => some (q2.2 c17 4, q2.2)) else if p2 = (nI 6) then ((maW q2.1).bind fun c19 => (f_X6_verdictIfEnded c19 q2.2).bind fun q20 => some (q20.1, q20.2)) else if p2 = (nI 7) then ((maW q2.1).bind fun c22 => (f_X5_sizeOfParts c22 q2.2).bind fun q23 => some (q23.1, q23.2)) else if p2 = (nI 8) then ((maW q2.1).bind fun c25 => some (q2.2 c25 5, q2.2)) else some ((-2), q2.2)
def f_X6_letter_28 (M : Mem) : Option Rv := some ((-1), M)
def f_X6_letter_69 (s0 : Int32) (M : Mem) : Option Rv := some (s0, M)
def f_X6_letter (p1 : Int32) (p2 : Int32) (p3 : Int32) (M : Mem) : Option Rv := (mlS (M 0 8)).bind fun c1 => (f_X4_find c1 p1 M).bind fun q2 => if q2.1 = nI 0 then (f_X6_letter_28 q2.2) else if p2 < (nI 0) then (f_X6_letter_28 q2.2) else (maW q2.1).bind fun c5 => if p2 < (q2.2 c5 2) then (if p3 < (nI 0) then (some ((-2), q2.2)) else (f_X3_spell c5 p2 q2.2).bind fun q8 => if p3 < q8.1 then ((mrd q8.2 19 360 p3).bind fun v10 => f_X6_letter_69 v10 q8.2) else f_X6_letter_69 (-5) q8.2) else f_X6_letter_28 q2.2
def f_X6_part_28 (M : Mem) : Option Rv := some ((-1), M)
def f_X6_part_118 (s0 : Int32) (M : Mem) : Option Rv := some (s0, M)
def f_X6_part (p1 : Int32) (p2 : Int32) (p3 : Int32) (M : Mem) : Option Rv := (mlS (M 0 8)).bind fun c1 => (f_X4_find c1 p1 M).bind fun q2 => if q2.1 = nI 0 then (f_X6_part_28 q2.2) else if p2 < (nI 0) then (f_X6_part_28 q2.2) else (maW q2.1).bind fun c5 => if p2 < (q2.2 c5 2) then (if p3 = (nI 0) then ((mrd q2.2 (c5 + 1) 8 p2).bind fun v8 => some (v8, q2.2)) else if p3 = (nI 1) then ((f_X3_spell c5 p2 q2.2).bind fun q10 => some (q10.1, q10.2)) else if p3 = (nI 2) then ((f_X6_loadAlone c5 p2 q2.2).bind fun q12 => (mrd q12.2 6 2048 q12.1).bind fun v13 => some (v13, q12.2)) else if p3 = (nI 3) then ((f_X6_loadAlone c5 p2 q2.2).bind fun q15 => (mrd q15.2 7 2048 q15.1).bind fun v16 => if v16 = (nI 0) then (f_X6_part_118 (nI 0) q15.2) else f_X6_part_118 (nI 1) q15.2) else some ((-2), q2.2)) else f_X6_part_28 q2.2
def f_X6_would_25 (M : Mem) : Option Rv := some ((-2), M)
def f_X6_would (p1 : Int32) (p2 : Int32) (M : Mem) : Option Rv := (mlS (M 0 8)).bind fun c1 => (f_X4_find c1 p1 M).bind fun q2 => if q2.1 = nI 0 then (some ((-1), q2.2)) else if p2 < (nI 0) then (f_X6_would_25 q2.2) else if p2 < (nI 64) then ((mlS (q2.2 0 8)).bind fun c6 => if (q2.2 c6 0) = (nI 0) then ((maW q2.1).bind fun c8 => (f_X6_verdictBehind c8 p2 q2.2).bind fun q9 => some (q9.1, q9.2)) else some ((-4), q2.2)) else f_X6_would_25 q2.2
def f_X6_addOutcomesOfPart_76 (k30 : Int32 → Int32 → Int32 → Int32 → Mem → Option Rv) (x3 : Int32) (x4 : Int32) (x5 : Int32) (x6 : Int32) (M : Mem) : Option Rv := (mrd M 26 64 x6).bind fun v1 => (mrd M 27 64 (x6 &&& x4)).bind fun v2 => (f_X6_worse v1 v2 M).bind fun q3 => (mst q3.2 26 64 x6 q3.1).bind fun M4 => k30 x3 x4 x5 (x6 + nI 1) M4
def f_X6_addOutcomesOfPart_30 : Nat → Int32 → Int32 → Int32 → Int32 → Mem → Option Rv
  | 0, _, _, _, _, _ => none
  | n + 1, x3, x4, x5, x6, M => if x6 < (nI 64) then (if (x6 &&& x4) = x6 then ((f_X0_behind x3 x6 M).bind fun q3 => (f_X6_verdictOfForm q3.1 q3.2).bind fun q4 => (mst q4.2 27 64 x6 q4.1).bind fun M5 => (f_X1_release x5 M5).bind fun q6 => f_X6_addOutcomesOfPart_76 (f_X6_addOutcomesOfPart_30 n) x3 x4 x5 x6 q6.2) else f_X6_addOutcomesOfPart_76 (f_X6_addOutcomesOfPart_30 n) x3 x4 x5 x6 M) else some (nI 0, M)
def f_X6_addOutcomesOfPart (p1 : Nat) (p2 : Int32) (M : Mem) : Option Rv := (f_X6_loadAlone p1 p2 M).bind fun q1 => (mrd q1.2 6 2048 q1.1).bind fun v2 => f_X6_addOutcomesOfPart_30 fuelN q1.1 v2 (q1.2 1 11) (nI 0) q1.2
def f_X6_findOutcomes_29 (k2 : Nat → Int32 → Mem → Option Rv) (x1 : Nat) (x2 : Int32) (s0 : Int32) (s1 : Int32) (M : Mem) : Option Rv := (mst M 26 64 s1 s0).bind fun M1 => k2 x1 (x2 + nI 1) M1
def f_X6_findOutcomes_66 (M : Mem) : Option Rv := some (nI 0, M)
def f_X6_findOutcomes_46 : Nat → Nat → Int32 → Mem → Option Rv
  | 0, _, _, _ => none
  | n + 1, x1, x2, M => if x2 < (M x1 2) then ((f_X6_addOutcomesOfPart x1 x2 M).bind fun q2 => f_X6_findOutcomes_46 n x1 (x2 + nI 1) q2.2) else f_X6_findOutcomes_66 M
def f_X6_findOutcomes_2 : Nat → Nat → Int32 → Mem → Option Rv
  | 0, _, _, _ => none
  | n + 1, x1, x2, M => if x2 < (nI 64) then (if (M x1 1) = (nI 2) then (f_X6_findOutcomes_29 (f_X6_findOutcomes_2 n) x1 x2 (nI 1) x2 M) else f_X6_findOutcomes_29 (f_X6_findOutcomes_2 n) x1 x2 (M x1 1) x2 M) else if (M x1 1) = (nI 2) then (f_X6_findOutcomes_46 fuelN x1 (nI 0) M) else f_X6_findOutcomes_66 M
def f_X6_findOutcomes (p1 : Nat) (M : Mem) : Option Rv := f_X6_findOutcomes_2 fuelN p1 (nI 0) M
def f_X6_bears_24 (M : Mem) : Option Rv := some ((-2), M)
def f_X6_bears_114 (x5 : Int32) (M : Mem) : Option Rv := some (x5, M)
def f_X6_bears_125 (k51 : Int32 → Int32 → Int32 → Mem → Option Rv) (x2 : Int32) (x4 : Int32) (x5 : Int32) (M : Mem) : Option Rv := k51 x2 x4 (x5 + nI 1) M
def f_X6_bears_117 (k51 : Int32 → Int32 → Int32 → Mem → Option Rv) (x2 : Int32) (x4 : Int32) (x5 : Int32) (x6 : Int32) (M : Mem) : Option Rv := if x6 = (nI 0) then (f_X6_bears_125 k51 x2 x4 x5 M) else f_X6_bears_125 k51 x2 (x4 + nI 1) x5 M
def f_X6_bears_97 (k51 : Int32 → Int32 → Int32 → Mem → Option Rv) (x2 : Int32) (x4 : Int32) (x5 : Int32) (s0 : Int32) (M : Mem) : Option Rv := if s0 = (nI 0) then (f_X6_bears_117 k51 x2 x4 x5 s0 M) else if x2 = (nI 1) then (f_X6_bears_114 x5 M) else if x2 = (nI 3) then (f_X6_bears_114 x5 M) else f_X6_bears_117 k51 x2 x4 x5 s0 M
def f_X6_bears_148 (s0 : Int32) (M : Mem) : Option Rv := some (s0, M)
def f_X6_bears_141 (M : Mem) : Option Rv := f_X6_bears_148 (-5) M
def f_X6_bears_51 : Nat → Int32 → Int32 → Int32 → Mem → Option Rv
  | 0, _, _, _, _ => none
  | n + 1, x2, x4, x5, M => if x5 < (nI 64) then (if x2 < (nI 2) then ((mrd M 26 64 x5).bind fun v7 => if v7 = (nI 0) then (f_X6_bears_97 (f_X6_bears_51 n) x2 x4 x5 (nI 0) M) else f_X6_bears_97 (f_X6_bears_51 n) x2 x4 x5 (nI 1) M) else (mrd M 26 64 x5).bind fun v5 => if v5 = (nI 1) then (f_X6_bears_97 (f_X6_bears_51 n) x2 x4 x5 (nI 1) M) else f_X6_bears_97 (f_X6_bears_51 n) x2 x4 x5 (nI 0) M) else if x2 = (nI 1) then (f_X6_bears_141 M) else if x2 = (nI 3) then (f_X6_bears_141 M) else f_X6_bears_148 x4 M
def f_X6_bears (p1 : Int32) (p2 : Int32) (M : Mem) : Option Rv := (mlS (M 0 8)).bind fun c1 => (f_X4_find c1 p1 M).bind fun q2 => if q2.1 = nI 0 then (some ((-1), q2.2)) else if p2 < (nI 0) then (f_X6_bears_24 q2.2) else if (nI 3) < p2 then (f_X6_bears_24 q2.2) else (mlS (q2.2 0 8)).bind fun c6 => if (q2.2 c6 0) = (nI 0) then ((maW q2.1).bind fun c8 => (f_X6_findOutcomes c8 q2.2).bind fun q9 => f_X6_bears_51 fuelN p2 (nI 0) (nI 0) q9.2) else some ((-4), q2.2)
def f_X6_open_45 (k9 : Int32 → Int32 → Mem → Option Rv) (x1 : Int32) (x2 : Int32) (M : Mem) : Option Rv := k9 x1 (x2 + nI 1) M
def f_X6_open_9 : Nat → Int32 → Int32 → Mem → Option Rv
  | 0, _, _, _ => none
  | n + 1, x1, x2, M => (mlS (M 0 8)).bind fun c1 => if x2 < (M c1 2) then ((mlS (M 0 8)).bind fun c3 => (f_X4_isOpen c3 x2 M).bind fun q4 => if q4.1 = (nI 0) then (f_X6_open_45 (f_X6_open_9 n) x1 x2 q4.2) else (mlS (q4.2 0 8)).bind fun c6 => (f_X4_rankOfOpen c6 x2 q4.2).bind fun q7 => if q7.1 = x1 then (some (x2, q7.2)) else f_X6_open_45 (f_X6_open_9 n) x1 x2 q7.2) else some ((-5), M)
def f_X6_open (p1 : Int32) (M : Mem) : Option Rv := if p1 < (nI 0) then (some ((-2), M)) else f_X6_open_9 fuelN p1 (nI 0) M
def f_X6_at_32 (s0 : Int32) (M : Mem) : Option Rv := some (s0, M)
def f_X6_at (p1 : Int32) (M : Mem) : Option Rv := if p1 < (nI 0) then (some ((-2), M)) else (mlS (M 0 8)).bind fun c2 => if p1 < (M c2 1) then ((mlS (M 0 8)).bind fun c4 => (mrd M (c4 + 1) 40 p1).bind fun v5 => f_X6_at_32 v5 M) else f_X6_at_32 (-5) M
def f_X6_count_75 (s0 : Int32) (M : Mem) : Option Rv := some (s0, M)
def f_X6_count (p1 : Int32) (M : Mem) : Option Rv := if p1 = (nI 0) then ((mlS (M 0 8)).bind fun c2 => some (M c2 1, M)) else if p1 = (nI 1) then ((mlS (M 0 8)).bind fun c4 => if (M c4 0) = (nI 0) then (f_X6_count_75 (nI 0) M) else f_X6_count_75 (nI 1) M) else if p1 = (nI 2) then ((mlS (M 0 8)).bind fun c7 => (f_X4_howManyThere c7 M).bind fun q8 => some (q8.1, q8.2)) else if p1 = (nI 3) then ((mlS (M 0 8)).bind fun c10 => some (M c10 2, M)) else if p1 = (nI 4) then ((mlS (M 0 8)).bind fun c12 => (f_X4_howMany c12 (nI 2) M).bind fun q13 => some (q13.1, q13.2)) else if p1 = (nI 5) then ((mlS (M 0 8)).bind fun c15 => (f_X4_howMany c15 (nI 0) M).bind fun q16 => some (q16.1, q16.2)) else if p1 = (nI 6) then ((mlS (M 0 8)).bind fun c18 => (f_X4_howMany c18 (nI 1) M).bind fun q19 => some (q19.1, q19.2)) else if p1 = (nI 7) then (some (M 0 10, M)) else if p1 = (nI 8) then (some (M 22 5, M)) else some ((-2), M)
def f_X7_in_15 (s0 : Int32) (M : Mem) : Option Rv := mrz s0 M
def f_X7_in_14 (M : Mem) : Option Rv := f_X7_in_15 (nI 0) M
def f_X7_in (p1 : Int32) (p2 : Int32) (p3 : Int32) (M : Mem) : Option Rv := if p1 < p2 then (f_X7_in_14 M) else if p3 < p1 then (f_X7_in_14 M) else f_X7_in_15 (nI 1) M
def f_X7_record_50 : Nat → Int32 → Mem → Option Rv
  | 0, _, _ => none
  | n + 1, x1, M => if x1 < (nI 31088) then ((mrd M 219 31088 x1).bind fun v3 => (mst M 220 124352 (((nI 31088) * (M 218 24)) + x1) v3).bind fun M4 => f_X7_record_50 n (x1 + nI 1) M4) else (mpi M 218 24 ((M 218 24) + (nI 1))).bind fun M2 => some (nI 0, M2)
def f_X7_record_48 (M : Mem) : Option Rv := f_X7_record_50 fuelN (nI 0) M
def f_X7_record_10 : Nat → Int32 → Mem → Option Rv
  | 0, _, _ => none
  | n + 1, x1, M => if x1 < (nI 93264) then ((mrd M 220 124352 ((nI 31088) + x1)).bind fun v3 => (mst M 220 124352 x1 v3).bind fun M4 => f_X7_record_10 n (x1 + nI 1) M4) else (mpi M 218 24 ((M 218 24) - (nI 1))).bind fun M2 => f_X7_record_48 M2
def f_X7_record (M : Mem) : Option Rv := if (M 218 24) = (nI 4) then (f_X7_record_10 fuelN (nI 0) M) else f_X7_record_48 M
def f_X7_w (p1 : Int32) (M : Mem) : Option Rv := some ((nI 48) + ((nI 8) * p1), M)
def f_X7_cell (p1 : Int32) (p2 : Int32) (p3 : Int32) (M : Mem) : Option Rv := some (((nI 112) + ((nI 484) * (((nI 8) * p1) + p2))) + p3, M)
def f_X7_isThere_36 (s0 : Int32) (M : Mem) : Option Rv := mrz s0 M
def f_X7_isThere_35 (M : Mem) : Option Rv := f_X7_isThere_36 (nI 0) M
def f_X7_isThere (p1 : Int32) (M : Mem) : Option Rv := (mrd M 219 31088 (nI 2)).bind fun v1 => (f_X7_in p1 (nI 0) (v1 - (nI 1)) M).bind fun q2 => if q2.1 = (nI 0) then (f_X7_isThere_35 q2.2) else (f_X7_w p1 q2.2).bind fun q4 => (mrd q4.2 219 31088 (q4.1 + (nI 0))).bind fun v5 => if v5 = (nI 1) then (f_X7_isThere_36 (nI 1) q4.2) else f_X7_isThere_35 q4.2
def f_X7_verdict (p1 : Int32) (M : Mem) : Option Rv := (f_X7_w p1 M).bind fun q1 => (mrd q1.2 219 31088 (q1.1 + (nI 1))).bind fun v2 => some (v2, q1.2)
def f_X7_empty_49 (k13 : Int32 → Mem → Option Rv) (x1 : Int32) (s0 : Int32) (s1 : Int32) (M : Mem) : Option Rv := (mst M 226 8000 s1 s0).bind fun M1 => k13 (x1 + nI 1) M1
def f_X7_empty_13 : Nat → Int32 → Mem → Option Rv
  | 0, _, _ => none
  | n + 1, x1, M => if x1 < (nI 16) then ((mst M 222 8000 x1 (nI 0)).bind fun M2 => (mst M2 225 8000 x1 (nI 1)).bind fun M3 => if x1 < (nI 10) then (f_X7_empty_49 (f_X7_empty_13 n) x1 (nI 1) x1 M3) else f_X7_empty_49 (f_X7_empty_13 n) x1 (nI 2) x1 M3) else some (nI 0, M)
def f_X7_empty (M : Mem) : Option Rv := (mpi M 218 11 (nI 16)).bind fun M1 => (mpi M1 218 12 (nI 0)).bind fun M2 => f_X7_empty_13 fuelN (nI 0) M2
def f_X7_childMany_44 (s0 : Int32) (M : Mem) : Option Rv := some (s0, M)
def f_X7_childMany (p1 : Int32) (M : Mem) : Option Rv := if p1 < (nI 16) then (f_X7_childMany_44 (nI 0) M) else (mrd M 222 8000 p1).bind fun v2 => if v2 < (nI 3) then (f_X7_childMany_44 (nI 1) M) else (mrd M 222 8000 p1).bind fun v4 => if v4 < (nI 5) then (f_X7_childMany_44 (nI 2) M) else (mrd M 224 8000 p1).bind fun v6 => f_X7_childMany_44 v6 M
def f_X7_child_45 (s0 : Int32) (M : Mem) : Option Rv := some (s0, M)
def f_X7_child (p1 : Int32) (p2 : Int32) (M : Mem) : Option Rv := (mrd M 222 8000 p1).bind fun v1 => if v1 < (nI 5) then (if p2 = (nI 0) then ((mrd M 223 8000 p1).bind fun v5 => f_X7_child_45 v5 M) else (mrd M 224 8000 p1).bind fun v4 => f_X7_child_45 v4 M) else (mrd M 223 8000 p1).bind fun v6 => (mrd M 229 90000 (v6 + p2)).bind fun v7 => f_X7_child_45 v7 M
def f_X7_make_49 (k4 : Int32 → Int32 → Int32 → Int32 → Mem → Option Rv) (x1 : Int32) (x2 : Int32) (x3 : Int32) (x4 : Int32) (M : Mem) : Option Rv := k4 x1 x2 x3 (x4 + nI 1) M
def f_X7_make_157 (s0 : Int32) (s1 : Int32) (M : Mem) : Option Rv := (mst M 226 8000 s1 s0).bind fun M1 => (mpi M1 218 11 ((M1 218 11) + (nI 1))).bind fun M2 => some ((M2 218 11) - (nI 1), M2)
def f_X7_make_116 (x1 : Int32) (x2 : Int32) (x3 : Int32) (s0 : Int32) (s1 : Int32) (s2 : Int32) (M : Mem) : Option Rv := (mst M 225 8000 s2 (s1 + s0)).bind fun M1 => if x1 < (nI 3) then ((mrd M1 226 8000 x2).bind fun v5 => f_X7_make_157 ((nI 1) + v5) (M1 218 11) M1) else (mrd M1 226 8000 x2).bind fun v3 => (mrd M1 226 8000 x3).bind fun v4 => f_X7_make_157 (((nI 3) + v3) + v4) (M1 218 11) M1
def f_X7_make_4 : Nat → Int32 → Int32 → Int32 → Int32 → Mem → Option Rv
  | 0, _, _, _, _, _ => none
  | n + 1, x1, x2, x3, x4, M => if x4 < (M 218 11) then ((mrd M 222 8000 x4).bind fun v8 => if v8 = x1 then ((mrd M 223 8000 x4).bind fun v10 => if v10 = x2 then ((mrd M 224 8000 x4).bind fun v12 => if v12 = x3 then (some (x4, M)) else f_X7_make_49 (f_X7_make_4 n) x1 x2 x3 x4 M) else f_X7_make_49 (f_X7_make_4 n) x1 x2 x3 x4 M) else f_X7_make_49 (f_X7_make_4 n) x1 x2 x3 x4 M) else (mst M 222 8000 (M 218 11) x1).bind fun M2 => (mst M2 223 8000 (M2 218 11) x2).bind fun M3 => (mst M3 224 8000 (M3 218 11) x3).bind fun M4 => (mrd M4 225 8000 x2).bind fun v5 => if x1 < (nI 3) then (f_X7_make_116 x1 x2 x3 (nI 0) ((nI 1) + v5) (M4 218 11) M4) else (mrd M4 225 8000 x3).bind fun v7 => f_X7_make_116 x1 x2 x3 v7 ((nI 1) + v5) (M4 218 11) M4
def f_X7_make (p1 : Int32) (p2 : Int32) (p3 : Int32) (M : Mem) : Option Rv := f_X7_make_4 fuelN p1 p2 p3 (nI 16) M
def f_X7_isList_74 (k32 : Int32 → Int32 → Int32 → Mem → Option Rv) (x1 : Int32) (x4 : Int32) (s0 : Int32) (M : Mem) : Option Rv := k32 x1 s0 (x4 + nI 1) M
def f_X7_isList_81 (x3 : Int32) (M : Mem) : Option Rv := mrz x3 M
def f_X7_isList_32 : Nat → Int32 → Int32 → Int32 → Mem → Option Rv
  | 0, _, _, _, _ => none
  | n + 1, x1, x3, x4, M => if x4 < (M 218 14) then (if x3 = (nI 0) then (f_X7_isList_81 x3 M) else (mrd M 223 8000 x1).bind fun v3 => (mrd M 229 90000 (v3 + x4)).bind fun v4 => (mrd M 230 4000 x4).bind fun v5 => if v4 = v5 then (f_X7_isList_74 (f_X7_isList_32 n) x1 x4 (nI 1) M) else f_X7_isList_74 (f_X7_isList_32 n) x1 x4 (nI 0) M) else f_X7_isList_81 x3 M
def f_X7_isList_28 (x1 : Int32) (s0 : Int32) (M : Mem) : Option Rv := f_X7_isList_32 fuelN x1 s0 (nI 0) M
def f_X7_isList_27 (x1 : Int32) (M : Mem) : Option Rv := f_X7_isList_28 x1 (nI 0) M
def f_X7_isList (p1 : Int32) (p2 : Int32) (M : Mem) : Option Rv := (mrd M 222 8000 p1).bind fun v1 => if v1 = p2 then ((mrd M 224 8000 p1).bind fun v3 => if v3 = (M 218 14) then (f_X7_isList_28 p1 (nI 1) M) else f_X7_isList_27 p1 M) else f_X7_isList_27 p1 M
def f_X7_makeList_91 : Nat → Int32 → Mem → Option Rv
  | 0, _, _ => none
  | n + 1, x2, M => if x2 < (M 218 14) then ((mrd M 230 4000 x2).bind fun v3 => (mst M 229 90000 (M 218 12) v3).bind fun M4 => (mpi M4 218 12 ((M4 218 12) + (nI 1))).bind fun M5 => (mrd M5 225 8000 (M5 218 11)).bind fun v6 => (mrd M5 230 4000 x2).bind fun v7 => (mrd M5 225 8000 v7).bind fun v8 => (mst M5 225 8000 (M5 218 11) (v6 + v8)).bind fun M9 => (mrd M9 226 8000 (M9 218 11)).bind fun v10 => (mrd M9 230 4000 x2).bind fun v11 => (mrd M9 226 8000 v11).bind fun v12 => (mst M9 226 8000 (M9 218 11) (v10 + v12)).bind fun M13 => f_X7_makeList_91 n (x2 + nI 1) M13) else (mpi M 218 11 ((M 218 11) + (nI 1))).bind fun M2 => some ((M2 218 11) - (nI 1), M2)
def f_X7_makeList_3 : Nat → Int32 → Int32 → Mem → Option Rv
  | 0, _, _, _ => none
  | n + 1, x1, x2, M => if x2 < (M 218 11) then ((f_X7_isList x2 x1 M).bind fun q7 => if q7.1 = (nI 0) then (f_X7_makeList_3 n x1 (x2 + nI 1) q7.2) else some (x2, q7.2)) else (mst M 222 8000 (M 218 11) x1).bind fun M2 => (mst M2 223 8000 (M2 218 11) (M2 218 12)).bind fun M3 => (mst M3 224 8000 (M3 218 11) (M3 218 14)).bind fun M4 => (mst M4 225 8000 (M4 218 11) (nI 1)).bind fun M5 => (mst M5 226 8000 (M5 218 11) ((nI 1) + (M5 218 14))).bind fun M6 => f_X7_makeList_91 fuelN (nI 0) M6
def f_X7_makeList (p1 : Int32) (M : Mem) : Option Rv := f_X7_makeList_3 fuelN p1 (nI 16) M
def f_X7_begins_38 (s0 : Int32) (M : Mem) : Option Rv := some (s0, M)
def f_X7_begins_88 (s0 : Int32) (M : Mem) : Option Rv := some (s0, M)
def f_X7_begins (p1 : Int32) (M : Mem) : Option Rv := if p1 < (nI 16) then (if p1 < (nI 2) then (f_X7_begins_88 ((nI 48) + p1) M) else if p1 = (nI 2) then (f_X7_begins_88 (nI 62) M) else if p1 = (nI 3) then (f_X7_begins_88 (nI 46) M) else if p1 < (nI 10) then (f_X7_begins_88 (((nI 97) + p1) - (nI 4)) M) else f_X7_begins_88 (nI 45) M) else (mrd M 222 8000 p1).bind fun v6 => if v6 = (nI 1) then (f_X7_begins_38 (nI 88) M) else (mrd M 222 8000 p1).bind fun v8 => if v8 = (nI 2) then (f_X7_begins_38 (nI 78) M) else f_X7_begins_38 (nI 40) M
def f_X7_behind_61 (s0 : Int32) (M : Mem) : Option Rv := some (s0, M)
def f_X7_behind (p1 : Int32) (p2 : Int32) (M : Mem) : Option Rv := (f_X7_childMany p1 M).bind fun q1 => if p2 = (q1.1 - (nI 1)) then (some ((nI 41), q1.2)) else (mrd q1.2 222 8000 p1).bind fun v3 => if v3 = (nI 3) then (f_X7_behind_61 (nI 85) q1.2) else (mrd q1.2 222 8000 p1).bind fun v5 => if v5 = (nI 4) then (f_X7_behind_61 (nI 82) q1.2) else (mrd q1.2 222 8000 p1).bind fun v7 => if v7 = (nI 5) then (f_X7_behind_61 (nI 38) q1.2) else f_X7_behind_61 (nI 124) q1.2
def f_X7_isAhead_121 (s0 : Int32) (M : Mem) : Option Rv := mrz s0 M
def f_X7_isAhead_80 (k5 : Int32 → Int32 → Mem → Option Rv) (x3 : Int32) (x4 : Int32) (x5 : Int32) (M : Mem) : Option Rv := (f_X7_child x3 x5 M).bind fun q1 => (f_X7_child x4 x5 q1.2).bind fun q2 => if q1.1 = q2.1 then ((f_X7_behind x3 x5 q2.2).bind fun q6 => (f_X7_behind x4 x5 q6.2).bind fun q7 => if q6.1 < q7.1 then (f_X7_isAhead_121 (nI 1) q7.2) else f_X7_isAhead_121 (nI 0) q7.2) else (f_X7_child x3 x5 q2.2).bind fun q4 => (f_X7_child x4 x5 q4.2).bind fun q5 => k5 q4.1 q5.1 q5.2
def f_X7_isAhead_28 (k5 : Int32 → Int32 → Mem → Option Rv) : Nat → Int32 → Int32 → Int32 → Mem → Option Rv
  | 0, _, _, _, _ => none
  | n + 1, x3, x4, x5, M => (f_X7_child x3 x5 M).bind fun q1 => (f_X7_child x4 x5 q1.2).bind fun q2 => if q1.1 = q2.1 then ((f_X7_begins x3 q2.2).bind fun q4 => if q4.1 = (nI 40) then ((f_X7_behind x3 x5 q4.2).bind fun q6 => (f_X7_behind x4 x5 q6.2).bind fun q7 => if q6.1 = q7.1 then (f_X7_isAhead_28 k5 n x3 x4 (x5 + nI 1) q7.2) else f_X7_isAhead_80 k5 x3 x4 x5 q7.2) else f_X7_isAhead_80 k5 x3 x4 x5 q4.2) else f_X7_isAhead_80 k5 x3 x4 x5 q2.2
def f_X7_isAhead_194 (s0 : Int32) (M : Mem) : Option Rv := mrz s0 M
def f_X7_isAhead_147 (x3 : Int32) (x4 : Int32) (M : Mem) : Option Rv := (f_X7_begins x3 M).bind fun q1 => (f_X7_begins x4 q1.2).bind fun q2 => if q1.1 = q2.1 then (if x3 < x4 then (f_X7_isAhead_194 (nI 1) q2.2) else f_X7_isAhead_194 (nI 0) q2.2) else (f_X7_begins x3 q2.2).bind fun q4 => (f_X7_begins x4 q4.2).bind fun q5 => if q4.1 < q5.1 then (f_X7_isAhead_194 (nI 1) q5.2) else f_X7_isAhead_194 (nI 0) q5.2
def f_X7_isAhead_5 : Nat → Int32 → Int32 → Mem → Option Rv
  | 0, _, _, _ => none
  | n + 1, x3, x4, M => (f_X7_begins x3 M).bind fun q1 => (f_X7_begins x4 q1.2).bind fun q2 => if q1.1 = q2.1 then (if x3 < (nI 16) then (f_X7_isAhead_147 x3 x4 q2.2) else f_X7_isAhead_28 (f_X7_isAhead_5 n) fuelN x3 x4 (nI 0) q2.2) else f_X7_isAhead_147 x3 x4 q2.2
def f_X7_isAhead (p1 : Int32) (p2 : Int32) (M : Mem) : Option Rv := f_X7_isAhead_5 fuelN p1 p2 M
def f_X7_beginPut (M : Mem) : Option Rv := (mpi M 218 14 (nI 0)).bind fun M1 => (mpz M1 218 15 (nI 0)).bind fun M2 => some (nI 0, M2)
def f_X7_counter_56 (s0 : Int32) (M : Mem) : Option Rv := some (s0, M)
def f_X7_counter_55 (M : Mem) : Option Rv := f_X7_counter_56 (-1) M
def f_X7_counter_36 (x0 : Int32) (M : Mem) : Option Rv := if x0 < (nI 10) then (f_X7_counter_55 M) else if x0 < (nI 16) then (f_X7_counter_56 (x0 - (nI 6)) M) else f_X7_counter_55 M
def f_X7_counter (p1 : Int32) (M : Mem) : Option Rv := if p1 = (nI 2) then (f_X7_counter_56 (nI 3) M) else if p1 = (nI 3) then (f_X7_counter_56 (nI 2) M) else if p1 < (nI 4) then (f_X7_counter_36 p1 M) else if p1 < (nI 10) then (f_X7_counter_56 (p1 + (nI 6)) M) else f_X7_counter_36 p1 M
def f_X7_putOne_34 (s0 : Int32) (M : Mem) : Option Rv := (mpz M 218 15 s0).bind fun M1 => some (nI 0, M1)
def f_X7_putOne_29 (M : Mem) : Option Rv := f_X7_putOne_34 (nI 1) M
def f_X7_putOne_106 (k47 : Int32 → Int32 → Int32 → Int32 → Mem → Option Rv) (x2 : Int32) (x4 : Int32) (x5 : Int32) (x6 : Int32) (s0 : Int32) (M : Mem) : Option Rv := (mpz M 218 15 s0).bind fun M1 => k47 x2 x4 x5 (x6 + nI 1) M1
def f_X7_putOne_101 (k47 : Int32 → Int32 → Int32 → Int32 → Mem → Option Rv) (x2 : Int32) (x4 : Int32) (x5 : Int32) (x6 : Int32) (M : Mem) : Option Rv := f_X7_putOne_106 k47 x2 x4 x5 x6 (nI 1) M
def f_X7_putOne_77 (k47 : Int32 → Int32 → Int32 → Int32 → Mem → Option Rv) (x2 : Int32) (x4 : Int32) (x6 : Int32) (s0 : Int32) (M : Mem) : Option Rv := if (M 218 15) = (nI 0) then ((mrd M 230 4000 x6).bind fun v2 => (f_X7_counter x2 M).bind fun q3 => if v2 = q3.1 then (f_X7_putOne_101 k47 x2 x4 s0 x6 q3.2) else f_X7_putOne_106 k47 x2 x4 s0 x6 (nI 0) q3.2) else f_X7_putOne_101 k47 x2 x4 s0 x6 M
def f_X7_putOne_72 (k47 : Int32 → Int32 → Int32 → Int32 → Mem → Option Rv) (x2 : Int32) (x4 : Int32) (x6 : Int32) (M : Mem) : Option Rv := f_X7_putOne_77 k47 x2 x4 x6 (nI 1) M
def f_X7_putOne_157 : Nat → Int32 → Int32 → Int32 → Mem → Option Rv
  | 0, _, _, _, _ => none
  | n + 1, x2, x4, x6, M => if x4 < x6 then ((mrd M 230 4000 (x6 - (nI 1))).bind fun v4 => (mst M 230 4000 x6 v4).bind fun M5 => f_X7_putOne_157 n x2 x4 (x6 - nI 1) M5) else (mst M 230 4000 x4 x2).bind fun M2 => (mpi M2 218 14 ((M2 218 14) + (nI 1))).bind fun M3 => some (nI 0, M3)
def f_X7_putOne_151 (x2 : Int32) (x4 : Int32) (M : Mem) : Option Rv := f_X7_putOne_157 fuelN x2 x4 (M 218 14) M
def f_X7_putOne_121 : Nat → Int32 → Int32 → Mem → Option Rv
  | 0, _, _, _ => none
  | n + 1, x2, x4, M => if x4 < (M 218 14) then ((mrd M 230 4000 x4).bind fun v2 => (f_X7_isAhead v2 x2 M).bind fun q3 => if q3.1 = (nI 0) then (f_X7_putOne_151 x2 x4 q3.2) else f_X7_putOne_121 n x2 (x4 + nI 1) q3.2) else f_X7_putOne_151 x2 x4 M
def f_X7_putOne_47 : Nat → Int32 → Int32 → Int32 → Int32 → Mem → Option Rv
  | 0, _, _, _, _, _ => none
  | n + 1, x2, x4, x5, x6, M => if x6 < (M 218 14) then (if x5 = (nI 0) then ((mrd M 230 4000 x6).bind fun v4 => if v4 = x2 then (f_X7_putOne_72 (f_X7_putOne_47 n) x2 x4 x6 M) else f_X7_putOne_77 (f_X7_putOne_47 n) x2 x4 x6 (nI 0) M) else f_X7_putOne_72 (f_X7_putOne_47 n) x2 x4 x6 M) else if x5 = (nI 0) then (f_X7_putOne_121 fuelN x2 x4 M) else some (nI 0, M)
def f_X7_putOne_10 (x2 : Int32) (s0 : Int32) (M : Mem) : Option Rv := if x2 < (nI 2) then (if (M 218 15) = (nI 0) then (if x2 = s0 then (f_X7_putOne_34 (nI 0) M) else f_X7_putOne_29 M) else f_X7_putOne_29 M) else f_X7_putOne_47 fuelN x2 (nI 0) (nI 0) (nI 0) M
def f_X7_putOne (p1 : Int32) (p2 : Int32) (M : Mem) : Option Rv := if p1 = (nI 5) then (f_X7_putOne_10 p2 (nI 1) M) else f_X7_putOne_10 p2 (nI 0) M
def f_X7_putIn_61 (M : Mem) : Option Rv := some (nI 0, M)
def f_X7_putIn_18 : Nat → Int32 → Int32 → Int32 → Mem → Option Rv
  | 0, _, _, _, _ => none
  | n + 1, x1, x2, x3, M => (mrd M 224 8000 x2).bind fun v1 => if x3 < v1 then ((mrd M 223 8000 x2).bind fun v3 => (mrd M 229 90000 (v3 + x3)).bind fun v4 => (f_X7_putOne x1 v4 M).bind fun q5 => f_X7_putIn_18 n x1 x2 (x3 + nI 1) q5.2) else f_X7_putIn_61 M
def f_X7_putIn_55 (x1 : Int32) (x2 : Int32) (M : Mem) : Option Rv := (f_X7_putOne x1 x2 M).bind fun q1 => f_X7_putIn_61 q1.2
def f_X7_putIn (p1 : Int32) (p2 : Int32) (M : Mem) : Option Rv := if p2 < (nI 16) then (f_X7_putIn_55 p1 p2 M) else (mrd M 222 8000 p2).bind fun v2 => if v2 = p1 then (f_X7_putIn_18 fuelN p1 p2 (nI 0) M) else f_X7_putIn_55 p1 p2 M
def f_X7_endPut_57 (s0 : Int32) (M : Mem) : Option Rv := some (s0, M)
def f_X7_endPut_10 (x1 : Int32) (s0 : Int32) (M : Mem) : Option Rv := if (M 218 15) = (nI 0) then (if (M 218 14) = (nI 0) then (f_X7_endPut_57 s0 M) else if (M 218 14) = (nI 1) then ((mrd M 230 4000 (nI 0)).bind fun v5 => f_X7_endPut_57 v5 M) else (f_X7_makeList x1 M).bind fun q4 => f_X7_endPut_57 q4.1 q4.2) else f_X7_endPut_57 ((nI 1) - s0) M
def f_X7_endPut (p1 : Int32) (M : Mem) : Option Rv := if p1 = (nI 5) then (f_X7_endPut_10 p1 (nI 1) M) else f_X7_endPut_10 p1 (nI 0) M
def f_X7_both (p1 : Int32) (p2 : Int32) (p3 : Int32) (M : Mem) : Option Rv := (f_X7_beginPut M).bind fun q1 => (f_X7_putIn p1 p2 q1.2).bind fun q2 => (f_X7_putIn p1 p3 q2.2).bind fun q3 => (f_X7_endPut p1 q3.2).bind fun q4 => some (q4.1, q4.2)
def f_X7_mark_13 (k2 : Int32 → Int32 → Mem → Option Rv) (x1 : Int32) (x2 : Int32) (M : Mem) : Option Rv := (mst M 228 8000 x2 (nz (nI 0))).bind fun M1 => k2 x1 (x2 + nI 1) M1
def f_X7_mark_79 (k35 : Int32 → Mem → Option Rv) (x2 : Int32) (M : Mem) : Option Rv := k35 (x2 - nI 1) M
def f_X7_mark_43 (k35 : Int32 → Mem → Option Rv) : Nat → Int32 → Int32 → Mem → Option Rv
  | 0, _, _, _ => none
  | n + 1, x2, x3, M => (f_X7_childMany x2 M).bind fun q1 => if x3 < q1.1 then ((mrd q1.2 228 8000 x2).bind fun v3 => if v3 = (nI 0) then (f_X7_mark_79 k35 x2 q1.2) else (f_X7_child x2 x3 q1.2).bind fun q5 => (mst q5.2 228 8000 q5.1 (nz (nI 1))).bind fun M6 => f_X7_mark_43 k35 n x2 (x3 + nI 1) M6) else f_X7_mark_79 k35 x2 q1.2
def f_X7_mark_35 : Nat → Int32 → Mem → Option Rv
  | 0, _, _ => none
  | n + 1, x2, M => if x2 < (nI 16) then (some (nI 0, M)) else f_X7_mark_43 (f_X7_mark_35 n) fuelN x2 (nI 0) M
def f_X7_mark_2 : Nat → Int32 → Int32 → Mem → Option Rv
  | 0, _, _, _ => none
  | n + 1, x1, x2, M => if x1 < x2 then (if x2 < (nI 16) then (f_X7_mark_13 (f_X7_mark_2 n) x1 x2 M) else (mst M 228 8000 x1 (nz (nI 1))).bind fun M3 => f_X7_mark_35 fuelN x1 M3) else f_X7_mark_13 (f_X7_mark_2 n) x1 x2 M
def f_X7_mark (p1 : Int32) (M : Mem) : Option Rv := f_X7_mark_2 fuelN p1 (nI 0) M
def f_X7_putAll_6 : Nat → Int32 → Int32 → Int32 → Mem → Option Rv
  | 0, _, _, _, _ => none
  | n + 1, x1, x2, x3, M => (mrd M 224 8000 x2).bind fun v1 => if x3 < v1 then ((mrd M 223 8000 x2).bind fun v4 => (mrd M 229 90000 (v4 + x3)).bind fun v5 => (mrd M 227 8000 v5).bind fun v6 => (f_X7_putIn x1 v6 M).bind fun q7 => f_X7_putAll_6 n x1 x2 (x3 + nI 1) q7.2) else (f_X7_endPut x1 M).bind fun q3 => some (q3.1, q3.2)
def f_X7_putAll (p1 : Int32) (p2 : Int32) (M : Mem) : Option Rv := (f_X7_beginPut M).bind fun q1 => f_X7_putAll_6 fuelN p1 p2 (nI 0) q1.2
def f_X7_step (p1 : Int32) (M : Mem) : Option Rv := (mrd M 222 8000 p1).bind fun v1 => if v1 = (nI 1) then ((mrd M 223 8000 p1).bind fun v3 => (f_X7_both (nI 5) (nI 2) v3 M).bind fun q4 => some (q4.1, q4.2)) else if v1 = (nI 2) then ((mrd M 223 8000 p1).bind fun v6 => (f_X7_both (nI 6) (nI 3) v6 M).bind fun q7 => some (q7.1, q7.2)) else if v1 = (nI 3) then ((mrd M 224 8000 p1).bind fun v9 => (mrd M 227 8000 v9).bind fun v10 => (mrd M 223 8000 p1).bind fun v11 => (mrd M 227 8000 v11).bind fun v12 => (f_X7_both (nI 5) v12 p1 M).bind fun q13 => (f_X7_both (nI 6) v10 q13.1 q13.2).bind fun q14 => some (q14.1, q14.2)) else if v1 = (nI 4) then ((mrd M 224 8000 p1).bind fun v16 => (mrd M 227 8000 v16).bind fun v17 => (mrd M 223 8000 p1).bind fun v18 => (mrd M 227 8000 v18).bind fun v19 => (f_X7_both (nI 6) v19 p1 M).bind fun q20 => (f_X7_both (nI 5) v17 q20.1 q20.2).bind fun q21 => some (q21.1, q21.2)) else (mrd M 222 8000 p1).bind fun v22 => (f_X7_putAll v22 p1 M).bind fun q23 => some (q23.1, q23.2)
def f_X7_rewritten_123 (k7 : Int32 → Int32 → Int32 → Mem → Option Rv) (x1 : Int32) (x2 : Int32) (x3 : Int32) (M : Mem) : Option Rv := k7 x1 x2 (x3 + nI 1) M
def f_X7_rewritten_47 (k7 : Int32 → Int32 → Int32 → Mem → Option Rv) (x1 : Int32) (x2 : Int32) (x3 : Int32) (s0 : Int32) (s1 : Int32) (M : Mem) : Option Rv := (mst M 227 8000 s1 s0).bind fun M1 => f_X7_rewritten_123 k7 x1 x2 x3 M1
def f_X7_rewritten_99 (k7 : Int32 → Int32 → Int32 → Mem → Option Rv) (x1 : Int32) (x2 : Int32) (x3 : Int32) (s0 : Int32) (s1 : Int32) (M : Mem) : Option Rv := (mst M 227 8000 s1 s0).bind fun M1 => f_X7_rewritten_123 k7 x1 x2 x3 M1
def f_X7_rewritten_74 (k7 : Int32 → Int32 → Int32 → Mem → Option Rv) (x1 : Int32) (x2 : Int32) (x3 : Int32) (s0 : Int32) (s1 : Int32) (M : Mem) : Option Rv := if x3 < (nI 10) then (f_X7_rewritten_99 k7 x1 x2 x3 ((s1 >>> (s0 &&& nI 31)) &&& (nI 1)) x3 M) else f_X7_rewritten_99 k7 x1 x2 x3 ((nI 1) - ((s1 >>> (s0 &&& nI 31)) &&& (nI 1))) x3 M
def f_X7_rewritten_18 (k7 : Int32 → Int32 → Int32 → Mem → Option Rv) (x1 : Int32) (x2 : Int32) (x3 : Int32) (M : Mem) : Option Rv := if x3 < (nI 4) then (if x3 < (nI 2) then (f_X7_rewritten_47 k7 x1 x2 x3 x3 x3 M) else if x3 = (nI 2) then (f_X7_rewritten_47 k7 x1 x2 x3 (nI 1) x3 M) else f_X7_rewritten_47 k7 x1 x2 x3 (nI 0) x3 M) else if x3 < (nI 16) then (if x3 < (nI 10) then (f_X7_rewritten_74 k7 x1 x2 x3 (x3 - (nI 4)) x2 M) else f_X7_rewritten_74 k7 x1 x2 x3 (x3 - (nI 10)) x2 M) else (mrd M 228 8000 x3).bind fun v3 => if v3 = (nI 0) then (f_X7_rewritten_123 k7 x1 x2 x3 M) else (f_X7_step x3 M).bind fun q5 => (mst q5.2 227 8000 x3 q5.1).bind fun M6 => f_X7_rewritten_123 k7 x1 x2 x3 M6
def f_X7_rewritten_7 : Nat → Int32 → Int32 → Int32 → Mem → Option Rv
  | 0, _, _, _, _ => none
  | n + 1, x1, x2, x3, M => if x1 < x3 then (if x3 < (nI 16) then (f_X7_rewritten_18 (f_X7_rewritten_7 n) x1 x2 x3 M) else (mrd M 227 8000 x1).bind fun v3 => some (v3, M)) else f_X7_rewritten_18 (f_X7_rewritten_7 n) x1 x2 x3 M
def f_X7_rewritten (p1 : Int32) (p2 : Int32) (M : Mem) : Option Rv := (f_X7_mark p1 M).bind fun q1 => f_X7_rewritten_7 fuelN p1 p2 (nI 0) q1.2
def f_X7_turned (p1 : Int32) (M : Mem) : Option Rv := (mrd M 222 8000 p1).bind fun v1 => if v1 = (nI 1) then ((mrd M 223 8000 p1).bind fun v3 => (mrd M 227 8000 v3).bind fun v4 => (f_X7_make (nI 2) v4 (nI 0) M).bind fun q5 => some (q5.1, q5.2)) else if v1 = (nI 2) then ((mrd M 223 8000 p1).bind fun v7 => (mrd M 227 8000 v7).bind fun v8 => (f_X7_make (nI 1) v8 (nI 0) M).bind fun q9 => some (q9.1, q9.2)) else if v1 = (nI 3) then ((mrd M 223 8000 p1).bind fun v11 => (mrd M 227 8000 v11).bind fun v12 => (mrd M 224 8000 p1).bind fun v13 => (mrd M 227 8000 v13).bind fun v14 => (f_X7_make (nI 4) v12 v14 M).bind fun q15 => some (q15.1, q15.2)) else if v1 = (nI 4) then ((mrd M 223 8000 p1).bind fun v17 => (mrd M 227 8000 v17).bind fun v18 => (mrd M 224 8000 p1).bind fun v19 => (mrd M 227 8000 v19).bind fun v20 => (f_X7_make (nI 3) v18 v20 M).bind fun q21 => some (q21.1, q21.2)) else if v1 = (nI 5) then ((f_X7_putAll (nI 6) p1 M).bind fun q23 => some (q23.1, q23.2)) else (f_X7_putAll (nI 5) p1 M).bind fun q24 => some (q24.1, q24.2)
def f_X7_opposite_68 (k7 : Int32 → Int32 → Mem → Option Rv) (x1 : Int32) (x2 : Int32) (M : Mem) : Option Rv := k7 x1 (x2 + nI 1) M
def f_X7_opposite_44 (k7 : Int32 → Int32 → Mem → Option Rv) (x1 : Int32) (x2 : Int32) (s0 : Int32) (s1 : Int32) (M : Mem) : Option Rv := (mst M 227 8000 s1 s0).bind fun M1 => f_X7_opposite_68 k7 x1 x2 M1
def f_X7_opposite_18 (k7 : Int32 → Int32 → Mem → Option Rv) (x1 : Int32) (x2 : Int32) (M : Mem) : Option Rv := if x2 < (nI 16) then (if x2 < (nI 2) then (f_X7_opposite_44 k7 x1 x2 ((nI 1) - x2) x2 M) else (f_X7_counter x2 M).bind fun q7 => f_X7_opposite_44 k7 x1 x2 q7.1 x2 q7.2) else (mrd M 228 8000 x2).bind fun v2 => if v2 = (nI 0) then (f_X7_opposite_68 k7 x1 x2 M) else (f_X7_turned x2 M).bind fun q4 => (mst q4.2 227 8000 x2 q4.1).bind fun M5 => f_X7_opposite_68 k7 x1 x2 M5
def f_X7_opposite_7 : Nat → Int32 → Int32 → Mem → Option Rv
  | 0, _, _, _ => none
  | n + 1, x1, x2, M => if x1 < x2 then (if x2 < (nI 16) then (f_X7_opposite_18 (f_X7_opposite_7 n) x1 x2 M) else (mrd M 227 8000 x1).bind fun v3 => some (v3, M)) else f_X7_opposite_18 (f_X7_opposite_7 n) x1 x2 M
def f_X7_opposite (p1 : Int32) (M : Mem) : Option Rv := (f_X7_mark p1 M).bind fun q1 => f_X7_opposite_7 fuelN p1 (nI 0) q1.2
def f_X7_isTrue_175 (k2 : Int32 → Int32 → Mem → Option Rv) (x1 : Int32) (x2 : Int32) (M : Mem) : Option Rv := k2 x1 (x2 + nI 1) M
def f_X7_isTrue_45 (k2 : Int32 → Int32 → Mem → Option Rv) (x1 : Int32) (x2 : Int32) (s0 : Int32) (s1 : Int32) (M : Mem) : Option Rv := (mst M 227 8000 s1 s0).bind fun M1 => f_X7_isTrue_175 k2 x1 x2 M1
def f_X7_isTrue_40 (k2 : Int32 → Int32 → Mem → Option Rv) (x1 : Int32) (x2 : Int32) (s0 : Int32) (M : Mem) : Option Rv := f_X7_isTrue_45 k2 x1 x2 (nI 1) s0 M
def f_X7_isTrue_89 (k2 : Int32 → Int32 → Mem → Option Rv) (x1 : Int32) (x2 : Int32) (s0 : Int32) (s1 : Int32) (M : Mem) : Option Rv := (mst M 227 8000 s1 s0).bind fun M1 => f_X7_isTrue_175 k2 x1 x2 M1
def f_X7_isTrue_84 (k2 : Int32 → Int32 → Mem → Option Rv) (x1 : Int32) (x2 : Int32) (s0 : Int32) (M : Mem) : Option Rv := f_X7_isTrue_89 k2 x1 x2 (nI 1) s0 M
def f_X7_isTrue_174 (k2 : Int32 → Int32 → Mem → Option Rv) (x1 : Int32) (x2 : Int32) (s0 : Int32) (s1 : Int32) (M : Mem) : Option Rv := (mst M 227 8000 s1 s0).bind fun M1 => f_X7_isTrue_175 k2 x1 x2 M1
def f_X7_isTrue_169 (k2 : Int32 → Int32 → Mem → Option Rv) (x1 : Int32) (x2 : Int32) (s0 : Int32) (M : Mem) : Option Rv := f_X7_isTrue_174 k2 x1 x2 (nI 1) s0 M
def f_X7_isTrue_173 (k2 : Int32 → Int32 → Mem → Option Rv) (x1 : Int32) (x2 : Int32) (s0 : Int32) (M : Mem) : Option Rv := f_X7_isTrue_174 k2 x1 x2 (nI 0) s0 M
def f_X7_isTrue_98 (k2 : Int32 → Int32 → Mem → Option Rv) : Nat → Int32 → Int32 → Int32 → Int32 → Mem → Option Rv
  | 0, _, _, _, _, _ => none
  | n + 1, x1, x2, x3, x4, M => (mrd M 224 8000 x2).bind fun v1 => if x4 < v1 then ((mrd M 223 8000 x2).bind fun v8 => (mrd M 229 90000 (v8 + x4)).bind fun v9 => (mrd M 227 8000 v9).bind fun v10 => f_X7_isTrue_98 k2 n x1 x2 (x3 + v10) (x4 + nI 1) M) else (mrd M 222 8000 x2).bind fun v3 => if v3 = (nI 5) then ((mrd M 224 8000 x2).bind fun v6 => if x3 = v6 then (f_X7_isTrue_169 k2 x1 x2 x2 M) else f_X7_isTrue_173 k2 x1 x2 x2 M) else if (nI 0) < x3 then (f_X7_isTrue_169 k2 x1 x2 x2 M) else f_X7_isTrue_173 k2 x1 x2 x2 M
def f_X7_isTrue_13 (k2 : Int32 → Int32 → Mem → Option Rv) (x1 : Int32) (x2 : Int32) (M : Mem) : Option Rv := if x2 < (nI 16) then (if x2 = (nI 1) then (f_X7_isTrue_40 k2 x1 x2 x2 M) else if x2 = (nI 3) then (f_X7_isTrue_40 k2 x1 x2 x2 M) else if x2 < (nI 10) then (f_X7_isTrue_45 k2 x1 x2 (nI 0) x2 M) else f_X7_isTrue_40 k2 x1 x2 x2 M) else (mrd M 222 8000 x2).bind fun v2 => if v2 < (nI 5) then ((mrd M 222 8000 x2).bind fun v4 => if v4 = (nI 2) then (f_X7_isTrue_84 k2 x1 x2 x2 M) else (mrd M 222 8000 x2).bind fun v6 => if v6 = (nI 4) then (f_X7_isTrue_84 k2 x1 x2 x2 M) else f_X7_isTrue_89 k2 x1 x2 (nI 0) x2 M) else f_X7_isTrue_98 k2 fuelN x1 x2 (nI 0) (nI 0) M
def f_X7_isTrue_196 (s0 : Int32) (M : Mem) : Option Rv := mrz s0 M
def f_X7_isTrue_2 : Nat → Int32 → Int32 → Mem → Option Rv
  | 0, _, _, _ => none
  | n + 1, x1, x2, M => if x1 < x2 then (if x2 < (nI 16) then (f_X7_isTrue_13 (f_X7_isTrue_2 n) x1 x2 M) else (mrd M 227 8000 x1).bind fun v3 => if v3 = (nI 1) then (f_X7_isTrue_196 (nI 1) M) else f_X7_isTrue_196 (nI 0) M) else f_X7_isTrue_13 (f_X7_isTrue_2 n) x1 x2 M
def f_X7_isTrue (p1 : Int32) (M : Mem) : Option Rv := f_X7_isTrue_2 fuelN p1 (nI 0) M
def f_X7_store_249 (k41 : Int32 → Int32 → Int32 → Int32 → Int32 → Int32 → Mem → Option Rv) (x1 : Int32) (x2 : Int32) (x3 : Int32) (x4 : Int32) (x5 : Int32) (x6 : Int32) (M : Mem) : Option Rv := k41 x1 x2 x3 x4 x5 (x6 + nI 1) M
def f_X7_store_246 (k41 : Int32 → Int32 → Int32 → Int32 → Int32 → Int32 → Mem → Option Rv) (x1 : Int32) (x2 : Int32) (x3 : Int32) (x4 : Int32) (x5 : Int32) (x6 : Int32) (M : Mem) : Option Rv := f_X7_store_249 k41 x1 x2 x3 (x4 + nI 1) x5 x6 M
def f_X7_store_178 (k41 : Int32 → Int32 → Int32 → Int32 → Int32 → Int32 → Mem → Option Rv) : Nat → Int32 → Int32 → Int32 → Int32 → Int32 → Int32 → Int32 → Mem → Option Rv
  | 0, _, _, _, _, _, _, _, _ => none
  | n + 1, x1, x2, x3, x4, x5, x6, x8, M => (mrd M 224 8000 x6).bind fun v1 => if x8 < v1 then ((mrd M 222 8000 x6).bind fun v3 => if v3 < (nI 5) then (f_X7_store_246 k41 x1 x2 x3 x4 x5 x6 M) else (f_X7_cell x1 x2 ((nI 362) + x5) M).bind fun q5 => (mrd q5.2 223 8000 x6).bind fun v6 => (mrd q5.2 229 90000 (v6 + x8)).bind fun v7 => (mrd q5.2 227 8000 v7).bind fun v8 => (mst q5.2 219 31088 q5.1 v8).bind fun M9 => f_X7_store_178 k41 n x1 x2 x3 x4 (x5 + nI 1) x6 (x8 + nI 1) M9) else f_X7_store_246 k41 x1 x2 x3 x4 x5 x6 M
def f_X7_store_174 (k41 : Int32 → Int32 → Int32 → Int32 → Int32 → Int32 → Mem → Option Rv) (x1 : Int32) (x2 : Int32) (x3 : Int32) (x4 : Int32) (x5 : Int32) (x6 : Int32) (s0 : Int32) (s1 : Int32) (M : Mem) : Option Rv := (mst M 219 31088 s1 s0).bind fun M1 => f_X7_store_178 k41 fuelN x1 x2 x3 x4 x5 x6 (nI 0) M1
def f_X7_store_132 (k41 : Int32 → Int32 → Int32 → Int32 → Int32 → Int32 → Mem → Option Rv) (x1 : Int32) (x2 : Int32) (x3 : Int32) (x4 : Int32) (x5 : Int32) (x6 : Int32) (x7 : Int32) (s0 : Int32) (s1 : Int32) (M : Mem) : Option Rv := (mst M 219 31088 s1 s0).bind fun M1 => (mrd M1 222 8000 x6).bind fun v2 => if v2 < (nI 5) then ((mrd M1 224 8000 x6).bind fun v4 => (mrd M1 227 8000 v4).bind fun v5 => f_X7_store_174 k41 x1 x2 x3 x4 x5 x6 v5 (x7 + (nI 2)) M1) else (mrd M1 224 8000 x6).bind fun v6 => f_X7_store_174 k41 x1 x2 x3 x4 x5 x6 v6 (x7 + (nI 2)) M1
def f_X7_store_41 : Nat → Int32 → Int32 → Int32 → Int32 → Int32 → Int32 → Mem → Option Rv
  | 0, _, _, _, _, _, _, _ => none
  | n + 1, x1, x2, x3, x4, x5, x6, M => if x3 < x6 then ((f_X7_cell x1 x2 (nI 0) M).bind fun q2 => (mrd q2.2 227 8000 x3).bind fun v3 => (mst q2.2 219 31088 q2.1 v3).bind fun M4 => (f_X7_cell x1 x2 (nI 1) M4).bind fun q5 => (mst q5.2 219 31088 q5.1 (x4 - (nI 16))).bind fun M6 => some (nI 0, M6)) else (mrd M 228 8000 x6).bind fun v7 => if v7 = (nI 0) then (f_X7_store_249 (f_X7_store_41 n) x1 x2 x3 x4 x5 x6 M) else (f_X7_cell x1 x2 ((nI 2) + ((nI 3) * (x4 - (nI 16)))) M).bind fun q9 => (mst q9.2 227 8000 x6 x4).bind fun M10 => (mrd M10 222 8000 x6).bind fun v11 => (mst M10 219 31088 q9.1 v11).bind fun M12 => (mrd M12 222 8000 x6).bind fun v13 => if v13 < (nI 5) then ((mrd M12 223 8000 x6).bind fun v15 => (mrd M12 227 8000 v15).bind fun v16 => f_X7_store_132 (f_X7_store_41 n) x1 x2 x3 x4 x5 x6 q9.1 v16 (q9.1 + (nI 1)) M12) else f_X7_store_132 (f_X7_store_41 n) x1 x2 x3 x4 x5 x6 q9.1 x5 (q9.1 + (nI 1)) M12
def f_X7_store_15 : Nat → Int32 → Int32 → Int32 → Int32 → Int32 → Int32 → Mem → Option Rv
  | 0, _, _, _, _, _, _, _ => none
  | n + 1, x1, x2, x3, x4, x5, x6, M => if x6 < (nI 16) then ((mst M 227 8000 x6 x6).bind fun M2 => f_X7_store_15 n x1 x2 x3 x4 x5 (x6 + nI 1) M2) else f_X7_store_41 fuelN x1 x2 x3 x4 x5 (nI 16) M
def f_X7_store (p1 : Int32) (p2 : Int32) (p3 : Int32) (M : Mem) : Option Rv := (f_X7_mark p3 M).bind fun q1 => f_X7_store_15 fuelN p1 p2 p3 (nI 16) (nI 0) (nI 0) q1.2
def f_X7_load_212 (k40 : Int32 → Int32 → Int32 → Int32 → Mem → Option Rv) (x1 : Int32) (x2 : Int32) (x3 : Int32) (x4 : Int32) (M : Mem) : Option Rv := k40 x1 x2 x3 (x4 + nI 1) M
def f_X7_load_86 (k40 : Int32 → Int32 → Int32 → Int32 → Mem → Option Rv) : Nat → Int32 → Int32 → Int32 → Int32 → Int32 → Int32 → Mem → Option Rv
  | 0, _, _, _, _, _, _, _ => none
  | n + 1, x1, x2, x3, x4, x5, x6, M => if x6 < (M 218 14) then ((mrd M 219 31088 (x5 + (nI 1))).bind fun v5 => (f_X7_cell x1 x2 (((nI 362) + v5) + x6) M).bind fun q6 => (mrd q6.2 219 31088 q6.1).bind fun v7 => (mrd q6.2 227 8000 v7).bind fun v8 => (mst q6.2 230 4000 x6 v8).bind fun M9 => f_X7_load_86 k40 n x1 x2 x3 x4 x5 (x6 + nI 1) M9) else (mrd M 219 31088 x5).bind fun v2 => (f_X7_makeList v2 M).bind fun q3 => (mst q3.2 227 8000 ((nI 16) + x4) q3.1).bind fun M4 => f_X7_load_212 k40 x1 x2 x3 x4 M4
def f_X7_load_40 : Nat → Int32 → Int32 → Int32 → Int32 → Mem → Option Rv
  | 0, _, _, _, _, _ => none
  | n + 1, x1, x2, x3, x4, M => if x4 < x3 then ((f_X7_cell x1 x2 ((nI 2) + ((nI 3) * x4)) M).bind fun q5 => (mrd q5.2 219 31088 q5.1).bind fun v6 => if v6 < (nI 5) then ((mrd q5.2 219 31088 q5.1).bind fun v8 => (mrd q5.2 219 31088 (q5.1 + (nI 1))).bind fun v9 => (mrd q5.2 227 8000 v9).bind fun v10 => (mrd q5.2 219 31088 (q5.1 + (nI 2))).bind fun v11 => (mrd q5.2 227 8000 v11).bind fun v12 => (f_X7_make v8 v10 v12 q5.2).bind fun q13 => (mst q13.2 227 8000 ((nI 16) + x4) q13.1).bind fun M14 => f_X7_load_212 (f_X7_load_40 n) x1 x2 x3 x4 M14) else (mrd q5.2 219 31088 (q5.1 + (nI 2))).bind fun v15 => (mpi q5.2 218 14 v15).bind fun M16 => f_X7_load_86 (f_X7_load_40 n) fuelN x1 x2 x3 x4 q5.1 (nI 0) M16) else (f_X7_cell x1 x2 (nI 0) M).bind fun q2 => (mrd q2.2 219 31088 q2.1).bind fun v3 => (mrd q2.2 227 8000 v3).bind fun v4 => some (v4, q2.2)
def f_X7_load_15 : Nat → Int32 → Int32 → Int32 → Int32 → Mem → Option Rv
  | 0, _, _, _, _, _ => none
  | n + 1, x1, x2, x3, x4, M => if x4 < (nI 16) then ((mst M 227 8000 x4 x4).bind fun M2 => f_X7_load_15 n x1 x2 x3 (x4 + nI 1) M2) else f_X7_load_40 fuelN x1 x2 x3 (nI 0) M
def f_X7_load (p1 : Int32) (p2 : Int32) (M : Mem) : Option Rv := (f_X7_cell p1 p2 (nI 1) M).bind fun q1 => (mrd q1.2 219 31088 q1.1).bind fun v2 => f_X7_load_15 fuelN p1 p2 v2 (nI 0) q1.2
def f_X7_loadAlone (p1 : Int32) (p2 : Int32) (M : Mem) : Option Rv := (f_X7_empty M).bind fun q1 => (f_X7_load p1 p2 q1.2).bind fun q2 => some (q2.1, q2.2)
def f_X7_formOf (p1 : Int32) (p2 : Int32) (M : Mem) : Option Rv := (f_X7_cell p1 p2 (nI 0) M).bind fun q1 => (mrd q1.2 219 31088 q1.1).bind fun v2 => some (v2, q1.2)
def f_X7_partsThat_41 (k5 : Int32 → Int32 → Int32 → Int32 → Mem → Option Rv) (x1 : Int32) (x2 : Int32) (x4 : Int32) (s0 : Int32) (s1 : Int32) (M : Mem) : Option Rv := k5 x1 x2 (s1 ||| s0) (x4 + nI 1) M
def f_X7_partsThat_5 : Nat → Int32 → Int32 → Int32 → Int32 → Mem → Option Rv
  | 0, _, _, _, _, _ => none
  | n + 1, x1, x2, x3, x4, M => (f_X7_w x1 M).bind fun q1 => (mrd q1.2 219 31088 (q1.1 + (nI 5))).bind fun v2 => if x4 < v2 then ((f_X7_formOf x1 x4 q1.2).bind fun q4 => if q4.1 = x2 then (f_X7_partsThat_41 (f_X7_partsThat_5 n) x1 x2 x4 ((nI 1) <<< (x4 &&& nI 31)) x3 q4.2) else f_X7_partsThat_41 (f_X7_partsThat_5 n) x1 x2 x4 (nI 0) x3 q4.2) else some (x3, q1.2)
def f_X7_partsThat (p1 : Int32) (p2 : Int32) (M : Mem) : Option Rv := f_X7_partsThat_5 fuelN p1 p2 (nI 0) (nI 0) M
def f_X7_verdictBy_44 (s0 : Int32) (M : Mem) : Option Rv := some (s0, M)
def f_X7_verdictBy (p1 : Int32) (M : Mem) : Option Rv := (f_X7_w p1 M).bind fun q1 => (mrd q1.2 219 31088 (q1.1 + (nI 5))).bind fun v2 => (f_X7_partsThat p1 (nI 0) q1.2).bind fun q3 => if q3.1 = (nI 0) then ((f_X7_partsThat p1 (nI 1) q3.2).bind fun q5 => if q5.1 = (((nI 1) <<< (v2 &&& nI 31)) - (nI 1)) then (f_X7_verdictBy_44 (nI 1) q5.2) else f_X7_verdictBy_44 (nI 2) q5.2) else f_X7_verdictBy_44 (nI 0) q3.2
def f_X7_wouldBe_84 (k23 : Int32 → Int32 → Int32 → Int32 → Int32 → Mem → Option Rv) (x1 : Int32) (x2 : Int32) (x3 : Int32) (x5 : Int32) (s0 : Int32) (M : Mem) : Option Rv := k23 x1 x2 x3 s0 (x5 + nI 1) M
def f_X7_wouldBe_83 (k23 : Int32 → Int32 → Int32 → Int32 → Int32 → Mem → Option Rv) (x1 : Int32) (x2 : Int32) (x3 : Int32) (x5 : Int32) (M : Mem) : Option Rv := f_X7_wouldBe_84 k23 x1 x2 x3 x5 (nI 0) M
def f_X7_wouldBe_68 (k23 : Int32 → Int32 → Int32 → Int32 → Int32 → Mem → Option Rv) (x1 : Int32) (x2 : Int32) (x4 : Int32) (x5 : Int32) (x6 : Int32) (s0 : Int32) (M : Mem) : Option Rv := if x4 = (nI 0) then (f_X7_wouldBe_83 k23 x1 x2 s0 x5 M) else if x6 = (nI 0) then (f_X7_wouldBe_83 k23 x1 x2 s0 x5 M) else f_X7_wouldBe_84 k23 x1 x2 s0 x5 (nI 1) M
def f_X7_wouldBe_67 (k23 : Int32 → Int32 → Int32 → Int32 → Int32 → Mem → Option Rv) (x1 : Int32) (x2 : Int32) (x4 : Int32) (x5 : Int32) (x6 : Int32) (M : Mem) : Option Rv := f_X7_wouldBe_68 k23 x1 x2 x4 x5 x6 (nI 0) M
def f_X7_wouldBe_110 (s0 : Int32) (M : Mem) : Option Rv := some (s0, M)
def f_X7_wouldBe_23 : Nat → Int32 → Int32 → Int32 → Int32 → Int32 → Mem → Option Rv
  | 0, _, _, _, _, _, _ => none
  | n + 1, x1, x2, x3, x4, x5, M => (f_X7_w x1 M).bind fun q1 => (mrd q1.2 219 31088 (q1.1 + (nI 5))).bind fun v2 => if x5 < v2 then ((f_X7_loadAlone x1 x5 q1.2).bind fun q6 => (f_X7_rewritten q6.1 x2 q6.2).bind fun q7 => if x3 = (nI 0) then (f_X7_wouldBe_67 (f_X7_wouldBe_23 n) x1 x2 x4 x5 q7.1 q7.2) else if q7.1 = (nI 1) then (f_X7_wouldBe_68 (f_X7_wouldBe_23 n) x1 x2 x4 x5 q7.1 (nI 1) q7.2) else f_X7_wouldBe_67 (f_X7_wouldBe_23 n) x1 x2 x4 x5 q7.1 q7.2) else if x4 = (nI 0) then (f_X7_wouldBe_110 (nI 0) q1.2) else if x3 = (nI 0) then (f_X7_wouldBe_110 (nI 2) q1.2) else f_X7_wouldBe_110 (nI 1) q1.2
def f_X7_wouldBe (p1 : Int32) (p2 : Int32) (M : Mem) : Option Rv := (f_X7_verdict p1 M).bind fun q1 => if q1.1 < (nI 2) then ((f_X7_verdict p1 q1.2).bind fun q3 => some (q3.1, q3.2)) else f_X7_wouldBe_23 fuelN p1 p2 (nI 1) (nI 1) (nI 0) q1.2
def f_X7_blame_35 (k5 : Int32 → Int32 → Int32 → Int32 → Mem → Option Rv) (x1 : Int32) (x2 : Int32) (x4 : Int32) (s0 : Int32) (s1 : Int32) (M : Mem) : Option Rv := k5 x1 x2 (s1 ||| s0) (x4 + nI 1) M
def f_X7_blame_5 : Nat → Int32 → Int32 → Int32 → Int32 → Mem → Option Rv
  | 0, _, _, _, _, _ => none
  | n + 1, x1, x2, x3, x4, M => if x4 < (nI 6) then ((f_X7_wouldBe x1 (x2 ^^^ ((nI 1) <<< (x4 &&& nI 31))) M).bind fun q2 => if q2.1 = (nI 0) then (f_X7_blame_35 (f_X7_blame_5 n) x1 x2 x4 (nI 0) x3 q2.2) else f_X7_blame_35 (f_X7_blame_5 n) x1 x2 x4 ((nI 1) <<< (x4 &&& nI 31)) x3 q2.2) else some (x3, M)
def f_X7_blame (p1 : Int32) (p2 : Int32) (M : Mem) : Option Rv := f_X7_blame_5 fuelN p1 p2 (nI 0) (nI 0) M
def f_X7_isTooGreat_72 (k4 : Int32 → Int32 → Int32 → Mem → Option Rv) (k17 : Int32 → Int32 → Int32 → Int32 → Mem → Option Rv) (x1 : Int32) (x3 : Int32) (x4 : Int32) (s0 : Int32) (M : Mem) : Option Rv := k17 x1 s0 x3 (x4 + nI 1) M
def f_X7_isTooGreat_79 (k4 : Int32 → Int32 → Int32 → Mem → Option Rv) (x1 : Int32) (x2 : Int32) (x3 : Int32) (M : Mem) : Option Rv := k4 x1 x2 (x3 + nI 1) M
def f_X7_isTooGreat_17 (k4 : Int32 → Int32 → Int32 → Mem → Option Rv) : Nat → Int32 → Int32 → Int32 → Int32 → Mem → Option Rv
  | 0, _, _, _, _, _ => none
  | n + 1, x1, x2, x3, x4, M => (f_X7_w x3 M).bind fun q1 => (mrd q1.2 219 31088 (q1.1 + (nI 5))).bind fun v2 => if x4 < v2 then ((f_X7_isThere x3 q1.2).bind fun q4 => if q4.1 = (nI 0) then (f_X7_isTooGreat_79 k4 x1 x2 x3 q4.2) else if x2 = (nI 0) then ((f_X7_loadAlone x3 x4 q4.2).bind fun q7 => (f_X7_rewritten q7.1 x1 q7.2).bind fun q8 => (mrd q8.2 225 8000 q8.1).bind fun v9 => if (nI 120) < v9 then (f_X7_isTooGreat_72 k4 (f_X7_isTooGreat_17 k4 n) x1 x3 x4 (nI 1) q8.2) else f_X7_isTooGreat_72 k4 (f_X7_isTooGreat_17 k4 n) x1 x3 x4 (nI 0) q8.2) else f_X7_isTooGreat_79 k4 x1 x2 x3 q4.2) else f_X7_isTooGreat_79 k4 x1 x2 x3 q1.2
def f_X7_isTooGreat_4 : Nat → Int32 → Int32 → Int32 → Mem → Option Rv
  | 0, _, _, _, _ => none
  | n + 1, x1, x2, x3, M => (mrd M 219 31088 (nI 2)).bind fun v1 => if x3 < v1 then (f_X7_isTooGreat_17 (f_X7_isTooGreat_4 n) fuelN x1 x2 x3 (nI 0) M) else mrz x2 M
def f_X7_isTooGreat (p1 : Int32) (M : Mem) : Option Rv := f_X7_isTooGreat_4 fuelN p1 (nI 0) (nI 0) M
def f_X7_happens_88 (M : Mem) : Option Rv := some ((nI 0), M)
def f_X7_happens_147 (s0 : Int32) (s1 : Int32) (M : Mem) : Option Rv := (mst M 219 31088 s1 s0).bind fun M1 => some ((nI 1), M1)
def f_X7_happens_34 : Nat → Int32 → Int32 → Int32 → Int32 → Int32 → Mem → Option Rv
  | 0, _, _, _, _, _, _ => none
  | n + 1, x1, x2, x3, x4, x5, M => (f_X7_w x1 M).bind fun q1 => (mrd q1.2 219 31088 (q1.1 + (nI 5))).bind fun v2 => if x5 < v2 then ((f_X7_loadAlone x1 x5 q1.2).bind fun q16 => (f_X7_rewritten q16.1 x2 q16.2).bind fun q17 => (f_X7_store x1 x5 q17.1 q17.2).bind fun q18 => f_X7_happens_34 n x1 x2 x3 x4 (x5 + nI 1) q18.2) else if x3 = (nI 0) then (f_X7_happens_88 q1.2) else (f_X7_verdictBy x1 q1.2).bind fun q5 => if q5.1 = (nI 2) then (f_X7_happens_88 q5.2) else (f_X7_w x1 q5.2).bind fun q7 => (f_X7_verdictBy x1 q7.2).bind fun q8 => (mst q8.2 219 31088 (q7.1 + (nI 1)) q8.1).bind fun M9 => (f_X7_w x1 M9).bind fun q10 => (mrd q10.2 219 31088 (nI 0)).bind fun v11 => (mst q10.2 219 31088 (q10.1 + (nI 2)) v11).bind fun M12 => (f_X7_w x1 M12).bind fun q13 => (f_X7_verdict x1 q13.2).bind fun q14 => if q14.1 = (nI 0) then (f_X7_happens_147 x4 (q13.1 + (nI 3)) q14.2) else f_X7_happens_147 (nI 0) (q13.1 + (nI 3)) q14.2
def f_X7_happens_29 (x1 : Int32) (x2 : Int32) (x3 : Int32) (s0 : Int32) (M : Mem) : Option Rv := f_X7_happens_34 fuelN x1 x2 x3 s0 (nI 0) M
def f_X7_happens_14 (x1 : Int32) (x2 : Int32) (s0 : Int32) (M : Mem) : Option Rv := if s0 = (nI 0) then (f_X7_happens_29 x1 x2 s0 (nI 0) M) else (f_X7_blame x1 x2 M).bind fun q2 => f_X7_happens_29 x1 x2 s0 q2.1 q2.2
def f_X7_happens (p1 : Int32) (p2 : Int32) (M : Mem) : Option Rv := (f_X7_verdict p1 M).bind fun q1 => if q1.1 = (nI 2) then (f_X7_happens_14 p1 p2 (nI 1) q1.2) else f_X7_happens_14 p1 p2 (nI 0) q1.2
def f_X7_event_45 (M : Mem) : Option Rv := some ((-3), M)
def f_X7_event_85 (k56 : Int32 → Int32 → Int32 → Mem → Option Rv) (x1 : Int32) (x3 : Int32) (s0 : Int32) (s1 : Int32) (M : Mem) : Option Rv := k56 x1 (s1 + s0) (x3 + nI 1) M
def f_X7_event_56 : Nat → Int32 → Int32 → Int32 → Mem → Option Rv
  | 0, _, _, _, _ => none
  | n + 1, x1, x2, x3, M => (mrd M 219 31088 (nI 2)).bind fun v1 => if x3 < v1 then ((f_X7_isThere x3 M).bind fun q7 => if q7.1 = (nI 0) then (f_X7_event_85 (f_X7_event_56 n) x1 x3 (nI 0) x2 q7.2) else (f_X7_happens x3 x1 q7.2).bind fun q9 => f_X7_event_85 (f_X7_event_56 n) x1 x3 q9.1 x2 q9.2) else (mrd M 219 31088 (nI 0)).bind fun v3 => (mst M 219 31088 ((nI 4) + v3) x1).bind fun M4 => (mrd M4 219 31088 (nI 0)).bind fun v5 => (mst M4 219 31088 (nI 0) (v5 + (nI 1))).bind fun M6 => some (x2, M6)
def f_X7_event (p1 : Int32) (M : Mem) : Option Rv := (f_X7_in p1 (nI 0) (nI 63) M).bind fun q1 => if q1.1 = (nI 0) then (some ((-2), q1.2)) else (mrd q1.2 219 31088 (nI 1)).bind fun v3 => if v3 = (nI 1) then (some ((-4), q1.2)) else (mrd q1.2 219 31088 (nI 0)).bind fun v5 => if v5 = (nI 40) then (f_X7_event_45 q1.2) else (f_X7_isTooGreat p1 q1.2).bind fun q7 => if q7.1 = (nI 0) then ((f_X7_record q7.2).bind fun q9 => f_X7_event_56 fuelN p1 (nI 0) (nI 0) q9.2) else f_X7_event_45 q7.2
def f_X7_end_86 (k21 : Int32 → Int32 → Mem → Option Rv) (k50 : Int32 → Int32 → Int32 → Mem → Option Rv) (x1 : Int32) (x2 : Int32) (x3 : Int32) (s0 : Int32) (s1 : Int32) (s2 : Int32) (M : Mem) : Option Rv := (f_X7_store s2 s1 s0 M).bind fun q1 => k50 x1 x2 (x3 + nI 1) q1.2
def f_X7_end_119 (k21 : Int32 → Int32 → Mem → Option Rv) (x1 : Int32) (x2 : Int32) (M : Mem) : Option Rv := k21 x1 (x2 + nI 1) M
def f_X7_end_50 (k21 : Int32 → Int32 → Mem → Option Rv) : Nat → Int32 → Int32 → Int32 → Mem → Option Rv
  | 0, _, _, _, _ => none
  | n + 1, x1, x2, x3, M => (f_X7_w x2 M).bind fun q1 => (mrd q1.2 219 31088 (q1.1 + (nI 5))).bind fun v2 => if x3 < v2 then ((f_X7_loadAlone x2 x3 q1.2).bind fun q8 => (f_X7_isTrue q8.1 q8.2).bind fun q9 => if q9.1 = (nI 0) then (f_X7_end_86 k21 (f_X7_end_50 k21 n) x1 x2 x3 (nI 0) x3 x2 q9.2) else f_X7_end_86 k21 (f_X7_end_50 k21 n) x1 x2 x3 (nI 1) x3 x2 q9.2) else (f_X7_w x2 q1.2).bind fun q4 => (f_X7_verdictBy x2 q4.2).bind fun q5 => (mst q5.2 219 31088 (q4.1 + (nI 1)) q5.1).bind fun M6 => (f_X7_verdict x2 M6).bind fun q7 => f_X7_end_119 k21 (x1 + q7.1) x2 q7.2
def f_X7_end_21 : Nat → Int32 → Int32 → Mem → Option Rv
  | 0, _, _, _ => none
  | n + 1, x1, x2, M => (mrd M 219 31088 (nI 2)).bind fun v1 => if x2 < v1 then ((f_X7_isThere x2 M).bind fun q4 => if q4.1 = (nI 0) then (f_X7_end_119 (f_X7_end_21 n) x1 x2 q4.2) else (f_X7_verdict x2 q4.2).bind fun q6 => if q6.1 = (nI 2) then (f_X7_end_50 (f_X7_end_21 n) fuelN x1 x2 (nI 0) q6.2) else f_X7_end_119 (f_X7_end_21 n) x1 x2 q6.2) else (mst M 219 31088 (nI 1) (nI 1)).bind fun M3 => some (x1, M3)
def f_X7_end (M : Mem) : Option Rv := (mrd M 219 31088 (nI 1)).bind fun v1 => if v1 = (nI 1) then (some ((-4), M)) else (f_X7_record M).bind fun q3 => f_X7_end_21 fuelN (nI 0) (nI 0) q3.2
def f_X7_isThing_29 (s0 : Int32) (M : Mem) : Option Rv := mrz s0 M
def f_X7_isThing_24 (M : Mem) : Option Rv := f_X7_isThing_29 (nI 1) M
def f_X7_isThing_12 (x0 : Int32) (M : Mem) : Option Rv := if x0 = (nI 49) then (f_X7_isThing_24 M) else if x0 = (nI 48) then (f_X7_isThing_24 M) else f_X7_isThing_29 (nI 0) M
def f_X7_isThing (p1 : Int32) (M : Mem) : Option Rv := if p1 < (nI 97) then (f_X7_isThing_12 p1 M) else if (nI 102) < p1 then (f_X7_isThing_12 p1 M) else f_X7_isThing_24 M
def f_X7_isAheadSign_35 (s0 : Int32) (M : Mem) : Option Rv := mrz s0 M
def f_X7_isAheadSign_30 (M : Mem) : Option Rv := f_X7_isAheadSign_35 (nI 1) M
def f_X7_isAheadSign (p1 : Int32) (M : Mem) : Option Rv := if p1 = (nI 33) then (f_X7_isAheadSign_30 M) else if p1 = (nI 88) then (f_X7_isAheadSign_30 M) else if p1 = (nI 78) then (f_X7_isAheadSign_30 M) else if p1 = (nI 71) then (f_X7_isAheadSign_30 M) else if p1 = (nI 70) then (f_X7_isAheadSign_30 M) else f_X7_isAheadSign_35 (nI 0) M
def f_X7_rank_37 (s0 : Int32) (M : Mem) : Option Rv := some (s0, M)
def f_X7_rank_32 (M : Mem) : Option Rv := f_X7_rank_37 (nI 3) M
def f_X7_rank (p1 : Int32) (M : Mem) : Option Rv := if p1 = (nI 124) then (f_X7_rank_37 (nI 1) M) else if p1 = (nI 38) then (f_X7_rank_37 (nI 2) M) else if p1 = (nI 85) then (f_X7_rank_32 M) else if p1 = (nI 82) then (f_X7_rank_32 M) else f_X7_rank_37 (nI 0) M
def f_X7_faultOf_153 (k6 : Int32 → Int32 → Int32 → Mem → Option Rv) (x1 : Int32) (x3 : Int32) (s0 : Int32) (M : Mem) : Option Rv := k6 x1 s0 (x3 + nI 1) M
def f_X7_faultOf_119 (k6 : Int32 → Int32 → Int32 → Mem → Option Rv) (x2 : Int32) (x3 : Int32) (x4 : Int32) (s0 : Int32) (s1 : Int32) (M : Mem) : Option Rv := if x2 = (nI 0) then (if x4 = (nI 41) then (f_X7_faultOf_153 k6 (s1 + s0) x3 (nI 0) M) else f_X7_faultOf_153 k6 (s1 + s0) x3 (nI 1) M) else (f_X7_isThing x4 M).bind fun q3 => if q3.1 = (nI 0) then (f_X7_faultOf_153 k6 (s1 + s0) x3 (nI 1) q3.2) else f_X7_faultOf_153 k6 (s1 + s0) x3 (nI 0) q3.2
def f_X7_faultOf_86 (k6 : Int32 → Int32 → Int32 → Mem → Option Rv) (x1 : Int32) (x2 : Int32) (x3 : Int32) (x4 : Int32) (s0 : Int32) (M : Mem) : Option Rv := if s0 = (nI 0) then (some (x3, M)) else if x4 = (nI 40) then (f_X7_faultOf_119 k6 x2 x3 x4 (nI 1) x1 M) else if x4 = (nI 41) then (f_X7_faultOf_119 k6 x2 x3 x4 (-1) x1 M) else f_X7_faultOf_119 k6 x2 x3 x4 (nI 0) x1 M
def f_X7_faultOf_54 (k6 : Int32 → Int32 → Int32 → Mem → Option Rv) (x1 : Int32) (x2 : Int32) (x3 : Int32) (x4 : Int32) (M : Mem) : Option Rv := f_X7_faultOf_86 k6 x1 x2 x3 x4 (nI 1) M
def f_X7_faultOf_58 (k6 : Int32 → Int32 → Int32 → Mem → Option Rv) (x1 : Int32) (x2 : Int32) (x3 : Int32) (x4 : Int32) (M : Mem) : Option Rv := f_X7_faultOf_86 k6 x1 x2 x3 x4 (nI 0) M
def f_X7_faultOf_81 (k6 : Int32 → Int32 → Int32 → Mem → Option Rv) (x1 : Int32) (x2 : Int32) (x3 : Int32) (x4 : Int32) (M : Mem) : Option Rv := f_X7_faultOf_86 k6 x1 x2 x3 x4 (nI 1) M
def f_X7_faultOf_85 (k6 : Int32 → Int32 → Int32 → Mem → Option Rv) (x1 : Int32) (x2 : Int32) (x3 : Int32) (x4 : Int32) (M : Mem) : Option Rv := f_X7_faultOf_86 k6 x1 x2 x3 x4 (nI 0) M
def f_X7_faultOf_176 (s0 : Int32) (M : Mem) : Option Rv := some (s0, M)
def f_X7_faultOf_168 (M : Mem) : Option Rv := f_X7_faultOf_176 (M 218 23) M
def f_X7_faultOf_6 : Nat → Int32 → Int32 → Int32 → Mem → Option Rv
  | 0, _, _, _, _ => none
  | n + 1, x1, x2, x3, M => if x3 < (M 218 23) then ((mrd M 234 60 x3).bind fun v4 => if x2 = (nI 0) then ((f_X7_rank v4 M).bind fun q6 => if (nI 0) < q6.1 then (f_X7_faultOf_81 (f_X7_faultOf_6 n) x1 x2 x3 v4 q6.2) else if v4 = (nI 41) then (if (nI 0) < x1 then (f_X7_faultOf_81 (f_X7_faultOf_6 n) x1 x2 x3 v4 q6.2) else f_X7_faultOf_85 (f_X7_faultOf_6 n) x1 x2 x3 v4 q6.2) else f_X7_faultOf_85 (f_X7_faultOf_6 n) x1 x2 x3 v4 q6.2) else (f_X7_isThing v4 M).bind fun q10 => if q10.1 = (nI 0) then ((f_X7_isAheadSign v4 q10.2).bind fun q12 => if q12.1 = (nI 0) then (if v4 = (nI 40) then (if x1 < (nI 4) then (f_X7_faultOf_54 (f_X7_faultOf_6 n) x1 x2 x3 v4 q12.2) else f_X7_faultOf_58 (f_X7_faultOf_6 n) x1 x2 x3 v4 q12.2) else f_X7_faultOf_58 (f_X7_faultOf_6 n) x1 x2 x3 v4 q12.2) else f_X7_faultOf_54 (f_X7_faultOf_6 n) x1 x2 x3 v4 q12.2) else f_X7_faultOf_54 (f_X7_faultOf_6 n) x1 x2 x3 v4 q10.2) else if x2 = (nI 0) then (if (nI 0) < x1 then (f_X7_faultOf_168 M) else f_X7_faultOf_176 (-1) M) else f_X7_faultOf_168 M
def f_X7_faultOf (M : Mem) : Option Rv := f_X7_faultOf_6 fuelN (nI 0) (nI 1) (nI 0) M
def f_X7_apply_118 (s0 : Int32) (s1 : Int32) (M : Mem) : Option Rv := (mst M 231 64 s1 s0).bind fun M1 => some (nI 0, M1)
def f_X7_apply_202 (s0 : Int32) (s1 : Int32) (M : Mem) : Option Rv := (mst M 231 64 s1 s0).bind fun M1 => some (nI 0, M1)
def f_X7_apply_197 (x2 : Int32) (x3 : Int32) (s0 : Int32) (s2 : Int32) (M : Mem) : Option Rv := (f_X7_make s0 x3 x2 M).bind fun q1 => f_X7_apply_202 q1.1 s2 q1.2
def f_X7_apply (M : Mem) : Option Rv := (mpi M 218 19 ((M 218 19) - (nI 1))).bind fun M1 => (mrd M1 232 80 (M1 218 19)).bind fun v2 => (mrd M1 231 64 ((M1 218 18) - (nI 1))).bind fun v3 => (f_X7_isAheadSign v2 M1).bind fun q4 => if q4.1 = (nI 0) then ((mpi q4.2 218 18 ((q4.2 218 18) - (nI 1))).bind fun M6 => (mrd M6 231 64 ((M6 218 18) - (nI 1))).bind fun v7 => if v2 = (nI 124) then ((f_X7_both (nI 6) v7 v3 M6).bind fun q12 => f_X7_apply_202 q12.1 ((M6 218 18) - (nI 1)) q12.2) else if v2 = (nI 38) then ((f_X7_both (nI 5) v7 v3 M6).bind fun q11 => f_X7_apply_202 q11.1 ((M6 218 18) - (nI 1)) q11.2) else if v2 = (nI 85) then (f_X7_apply_197 v3 v7 (nI 3) ((M6 218 18) - (nI 1)) M6) else f_X7_apply_197 v3 v7 (nI 4) ((M6 218 18) - (nI 1)) M6) else if v2 = (nI 33) then ((f_X7_opposite v3 q4.2).bind fun q21 => f_X7_apply_118 q21.1 ((q4.2 218 18) - (nI 1)) q21.2) else if v2 = (nI 88) then ((f_X7_make (nI 1) v3 (nI 0) q4.2).bind fun q20 => f_X7_apply_118 q20.1 ((q4.2 218 18) - (nI 1)) q20.2) else if v2 = (nI 78) then ((f_X7_make (nI 2) v3 (nI 0) q4.2).bind fun q19 => f_X7_apply_118 q19.1 ((q4.2 218 18) - (nI 1)) q19.2) else if v2 = (nI 71) then ((f_X7_make (nI 4) (nI 0) v3 q4.2).bind fun q18 => f_X7_apply_118 q18.1 ((q4.2 218 18) - (nI 1)) q18.2) else (f_X7_make (nI 3) (nI 1) v3 q4.2).bind fun q17 => f_X7_apply_118 q17.1 ((q4.2 218 18) - (nI 1)) q17.2
def f_X7_applyAhead_31 (M : Mem) : Option Rv := some (nI 0, M)
def f_X7_applyAhead_0 : Nat → Mem → Option Rv
  | 0, _ => none
  | n + 1, M => if (nI 0) < (M 218 19) then ((mrd M 232 80 ((M 218 19) - (nI 1))).bind fun v2 => (f_X7_isAheadSign v2 M).bind fun q3 => if q3.1 = (nI 0) then (f_X7_applyAhead_31 q3.2) else (f_X7_apply q3.2).bind fun q5 => f_X7_applyAhead_0 n q5.2) else f_X7_applyAhead_31 M
def f_X7_applyAhead (M : Mem) : Option Rv := f_X7_applyAhead_0 fuelN M
def f_X7_readOne_41 (s0 : Int32) (s1 : Int32) (M : Mem) : Option Rv := (mst M 231 64 s1 s0).bind fun M1 => (mpi M1 218 18 ((M1 218 18) + (nI 1))).bind fun M2 => (f_X7_applyAhead M2).bind fun q3 => some (nI 0, q3.2)
def f_X7_readOne_63 : Nat → Mem → Option Rv
  | 0, _ => none
  | n + 1, M => (mrd M 232 80 ((M 218 19) - (nI 1))).bind fun v1 => if v1 = (nI 40) then ((mpi M 218 19 ((M 218 19) - (nI 1))).bind fun M3 => (f_X7_applyAhead M3).bind fun q4 => some (nI 0, q4.2)) else (f_X7_apply M).bind fun q5 => f_X7_readOne_63 n q5.2
def f_X7_readOne_165 (k101 : Int32 → Mem → Option Rv) (x1 : Int32) (M : Mem) : Option Rv := (f_X7_apply M).bind fun q1 => k101 x1 q1.2
def f_X7_readOne_172 (x1 : Int32) (M : Mem) : Option Rv := (mst M 232 80 (M 218 19) (nc x1)).bind fun M1 => (mpi M1 218 19 ((M1 218 19) + (nI 1))).bind fun M2 => some (nI 0, M2)
def f_X7_readOne_101 : Nat → Int32 → Mem → Option Rv
  | 0, _, _ => none
  | n + 1, x1, M => (f_X7_rank x1 M).bind fun q1 => if (nI 0) < q1.1 then (if (nI 0) < (q1.2 218 19) then ((mrd q1.2 232 80 ((q1.2 218 19) - (nI 1))).bind fun v4 => (f_X7_rank v4 q1.2).bind fun q5 => (f_X7_rank x1 q5.2).bind fun q6 => if q6.1 < q5.1 then (f_X7_readOne_165 (f_X7_readOne_101 n) x1 q6.2) else (mrd q6.2 232 80 ((q6.2 218 19) - (nI 1))).bind fun v8 => (f_X7_rank v8 q6.2).bind fun q9 => (f_X7_rank x1 q9.2).bind fun q10 => if q9.1 = q10.1 then ((f_X7_rank x1 q10.2).bind fun q12 => if q12.1 < (nI 3) then (f_X7_readOne_165 (f_X7_readOne_101 n) x1 q12.2) else f_X7_readOne_172 x1 q12.2) else f_X7_readOne_172 x1 q10.2) else f_X7_readOne_172 x1 q1.2) else f_X7_readOne_172 x1 q1.2
def f_X7_readOne (p1 : Int32) (M : Mem) : Option Rv := (f_X7_isThing p1 M).bind fun q1 => if q1.1 = (nI 0) then (if p1 = (nI 41) then (f_X7_readOne_63 fuelN q1.2) else f_X7_readOne_101 fuelN p1 q1.2) else if p1 = (nI 48) then (f_X7_readOne_41 (nI 0) (q1.2 218 18) q1.2) else if p1 = (nI 49) then (f_X7_readOne_41 (nI 1) (q1.2 218 18) q1.2) else f_X7_readOne_41 (((nI 4) + p1) - (nI 97)) (q1.2 218 18) q1.2
def f_X7_read_40 : Nat → Mem → Option Rv
  | 0, _ => none
  | n + 1, M => if (nI 0) < (M 218 19) then ((f_X7_apply M).bind fun q3 => f_X7_read_40 n q3.2) else (mrd M 231 64 (nI 0)).bind fun v2 => some (v2, M)
def f_X7_read_16 : Nat → Int32 → Mem → Option Rv
  | 0, _, _ => none
  | n + 1, x1, M => if x1 < (M 218 23) then ((mrd M 234 60 x1).bind fun v2 => (f_X7_readOne v2 M).bind fun q3 => f_X7_read_16 n (x1 + nI 1) q3.2) else f_X7_read_40 fuelN M
def f_X7_read (M : Mem) : Option Rv := (f_X7_empty M).bind fun q1 => (mpi q1.2 218 18 (nI 0)).bind fun M2 => (mpi M2 218 19 (nI 0)).bind fun M3 => f_X7_read_16 fuelN (nI 0) M3
def f_X7_partMany_26 (s0 : Int32) (M : Mem) : Option Rv := some (s0, M)
def f_X7_partMany_25 (M : Mem) : Option Rv := f_X7_partMany_26 (nI 1) M
def f_X7_partMany (p1 : Int32) (M : Mem) : Option Rv := if p1 < (nI 16) then (f_X7_partMany_25 M) else (mrd M 222 8000 p1).bind fun v2 => if v2 = (nI 5) then ((mrd M 224 8000 p1).bind fun v4 => f_X7_partMany_26 v4 M) else f_X7_partMany_25 M
def f_X7_partForm_33 (s0 : Int32) (M : Mem) : Option Rv := some (s0, M)
def f_X7_partForm_32 (x1 : Int32) (M : Mem) : Option Rv := f_X7_partForm_33 x1 M
def f_X7_partForm (p1 : Int32) (p2 : Int32) (M : Mem) : Option Rv := if p1 < (nI 16) then (f_X7_partForm_32 p1 M) else (mrd M 222 8000 p1).bind fun v2 => if v2 = (nI 5) then ((mrd M 223 8000 p1).bind fun v4 => (mrd M 229 90000 (v4 + p2)).bind fun v5 => f_X7_partForm_33 v5 M) else f_X7_partForm_32 p1 M
def f_X7_comes_70 : Nat → Int32 → Int32 → Int32 → Int32 → Mem → Option Rv
  | 0, _, _, _, _, _ => none
  | n + 1, x1, x2, x3, x4, M => (mrd M 219 31088 (x3 + (nI 5))).bind fun v1 => if x4 < v1 then ((f_X7_partForm x1 x4 M).bind fun q7 => (f_X7_store x2 x4 q7.1 q7.2).bind fun q8 => f_X7_comes_70 n x1 x2 x3 (x4 + nI 1) q8.2) else (f_X7_verdictBy x2 M).bind fun q3 => (mst q3.2 219 31088 (x3 + (nI 1)) q3.1).bind fun M4 => (mrd M4 219 31088 (nI 2)).bind fun v5 => (mst M4 219 31088 (nI 2) (v5 + (nI 1))).bind fun M6 => some (x2, M6)
def f_X7_comes (p1 : Int32) (M : Mem) : Option Rv := (mrd M 219 31088 (nI 2)).bind fun v1 => (f_X7_w v1 M).bind fun q2 => (mst q2.2 219 31088 (q2.1 + (nI 0)) (nI 1)).bind fun M3 => (mst M3 219 31088 (q2.1 + (nI 2)) (-5)).bind fun M4 => (mst M4 219 31088 (q2.1 + (nI 3)) (nI 0)).bind fun M5 => (mrd M5 219 31088 (nI 0)).bind fun v6 => (mst M5 219 31088 (q2.1 + (nI 4)) v6).bind fun M7 => (f_X7_partMany p1 M7).bind fun q8 => (mst q8.2 219 31088 (q2.1 + (nI 5)) q8.1).bind fun M9 => f_X7_comes_70 fuelN p1 v1 q2.1 (nI 0) M9
def f_X7_addWish_53 (M : Mem) : Option Rv := some ((-3), M)
def f_X7_addWish (M : Mem) : Option Rv := (f_X7_faultOf M).bind fun q1 => if q1.1 < (nI 0) then ((mrd q1.2 219 31088 (nI 1)).bind fun v3 => if v3 = (nI 1) then (some ((-4), q1.2)) else (f_X7_read q1.2).bind fun q5 => (mrd q5.2 219 31088 (nI 2)).bind fun v6 => if v6 = (nI 8) then (f_X7_addWish_53 q5.2) else (f_X7_partMany q5.1 q5.2).bind fun q8 => if (nI 8) < q8.1 then (f_X7_addWish_53 q8.2) else (f_X7_record q8.2).bind fun q10 => (f_X7_comes q5.1 q10.2).bind fun q11 => some (q11.1, q11.2)) else some ((-100) - q1.1, q1.2)
def f_X7_allOf_56 : Nat → Int32 → Mem → Option Rv
  | 0, _, _ => none
  | n + 1, x2, M => if x2 < (M 218 21) then ((mrd M 233 16 x2).bind fun v3 => (f_X7_putIn (nI 5) v3 M).bind fun q4 => f_X7_allOf_56 n (x2 + nI 1) q4.2) else (f_X7_endPut (nI 5) M).bind fun q2 => some (q2.1, q2.2)
def f_X7_allOf_7 : Nat → Int32 → Int32 → Mem → Option Rv
  | 0, _, _, _ => none
  | n + 1, x1, x2, M => (f_X7_w x1 M).bind fun q1 => (mrd q1.2 219 31088 (q1.1 + (nI 5))).bind fun v2 => if x2 < v2 then ((f_X7_load x1 x2 q1.2).bind fun q5 => (mst q5.2 233 16 x2 q5.1).bind fun M6 => (mpi M6 218 21 ((M6 218 21) + (nI 1))).bind fun M7 => f_X7_allOf_7 n x1 (x2 + nI 1) M7) else (f_X7_beginPut q1.2).bind fun q4 => f_X7_allOf_56 fuelN (nI 0) q4.2
def f_X7_allOf (p1 : Int32) (M : Mem) : Option Rv := (mpi M 218 21 (nI 0)).bind fun M1 => f_X7_allOf_7 fuelN p1 (nI 0) M1
def f_X7_join_16 (M : Mem) : Option Rv := some ((-1), M)
def f_X7_join_125 (k86 : Int32 → Int32 → Int32 → Mem → Option Rv) (x5 : Int32) (x7 : Int32) (s0 : Int32) (M : Mem) : Option Rv := k86 x5 s0 (x7 + nI 1) M
def f_X7_join_120 (k86 : Int32 → Int32 → Int32 → Mem → Option Rv) (x5 : Int32) (x7 : Int32) (M : Mem) : Option Rv := f_X7_join_125 k86 x5 x7 (nI 1) M
def f_X7_join_149 (M : Mem) : Option Rv := some ((-3), M)
def f_X7_join_86 : Nat → Int32 → Int32 → Int32 → Mem → Option Rv
  | 0, _, _, _, _ => none
  | n + 1, x5, x6, x7, M => (f_X7_partMany x5 M).bind fun q1 => if x7 < q1.1 then (if x6 = (nI 0) then ((f_X7_partForm x5 x7 q1.2).bind fun q9 => (mrd q9.2 225 8000 q9.1).bind fun v10 => if (nI 120) < v10 then (f_X7_join_120 (f_X7_join_86 n) x5 x7 q9.2) else f_X7_join_125 (f_X7_join_86 n) x5 x7 (nI 0) q9.2) else f_X7_join_120 (f_X7_join_86 n) x5 x7 q1.2) else (mrd q1.2 219 31088 (nI 2)).bind fun v3 => if v3 = (nI 8) then (f_X7_join_149 q1.2) else if x6 = (nI 0) then ((f_X7_record q1.2).bind fun q6 => (f_X7_comes x5 q6.2).bind fun q7 => some (q7.1, q7.2)) else f_X7_join_149 q1.2
def f_X7_join_81 (x5 : Int32) (s0 : Int32) (M : Mem) : Option Rv := f_X7_join_86 fuelN x5 s0 (nI 0) M
def f_X7_join_53 (x2 : Int32) (x4 : Int32) (s0 : Int32) (M : Mem) : Option Rv := (f_X7_allOf x2 M).bind fun q1 => (f_X7_both s0 x4 q1.1 q1.2).bind fun q2 => (f_X7_partMany q2.1 q2.2).bind fun q3 => if (nI 8) < q3.1 then (f_X7_join_81 q2.1 (nI 1) q3.2) else f_X7_join_81 q2.1 (nI 0) q3.2
def f_X7_join (p1 : Int32) (p2 : Int32) (p3 : Int32) (M : Mem) : Option Rv := (f_X7_isThere p1 M).bind fun q1 => if q1.1 = (nI 0) then (f_X7_join_16 q1.2) else (f_X7_isThere p2 q1.2).bind fun q3 => if q3.1 = (nI 0) then (f_X7_join_16 q3.2) else (mrd q3.2 219 31088 (nI 1)).bind fun v5 => if v5 = (nI 1) then (some ((-4), q3.2)) else (f_X7_empty q3.2).bind fun q7 => (f_X7_allOf p1 q7.2).bind fun q8 => if p3 = (nI 0) then (f_X7_join_53 p2 q8.1 (nI 5) q8.2) else f_X7_join_53 p2 q8.1 (nI 6) q8.2
def f_X7_thereMany_24 (k4 : Int32 → Int32 → Mem → Option Rv) (x2 : Int32) (s0 : Int32) (s1 : Int32) (M : Mem) : Option Rv := k4 (s1 + s0) (x2 + nI 1) M
def f_X7_thereMany_4 : Nat → Int32 → Int32 → Mem → Option Rv
  | 0, _, _, _ => none
  | n + 1, x1, x2, M => if x2 < (nI 8) then ((f_X7_isThere x2 M).bind fun q2 => if q2.1 = (nI 0) then (f_X7_thereMany_24 (f_X7_thereMany_4 n) x2 (nI 0) x1 q2.2) else f_X7_thereMany_24 (f_X7_thereMany_4 n) x2 (nI 1) x1 q2.2) else some (x1, M)
def f_X7_thereMany (M : Mem) : Option Rv := f_X7_thereMany_4 fuelN (nI 0) (nI 0) M
def f_X7_removeWish (p1 : Int32) (M : Mem) : Option Rv := (f_X7_isThere p1 M).bind fun q1 => if q1.1 = (nI 0) then (some ((-1), q1.2)) else (f_X7_record q1.2).bind fun q3 => (f_X7_w p1 q3.2).bind fun q4 => (mst q4.2 219 31088 (q4.1 + (nI 0)) (nI 0)).bind fun M5 => (f_X7_thereMany M5).bind fun q6 => some (q6.1, q6.2)
def f_X7_type (p1 : Int32) (M : Mem) : Option Rv := if (M 218 23) = (nI 60) then (some ((-3), M)) else (mst M 234 60 (M 218 23) (nc p1)).bind fun M2 => (mpi M2 218 23 ((M2 218 23) + (nI 1))).bind fun M3 => some (M3 218 23, M3)
def f_X7_clearText (M : Mem) : Option Rv := (mpi M 218 23 (nI 0)).bind fun M1 => some (M 218 23, M1)
def f_X7_undo_22 : Nat → Int32 → Mem → Option Rv
  | 0, _, _ => none
  | n + 1, x1, M => if x1 < (nI 31088) then ((mrd M 220 124352 (((nI 31088) * (M 218 24)) + x1)).bind fun v2 => (mst M 219 31088 x1 v2).bind fun M3 => f_X7_undo_22 n (x1 + nI 1) M3) else some (M 218 24, M)
def f_X7_undo (M : Mem) : Option Rv := if (M 218 24) = (nI 0) then (some ((-5), M)) else (mpi M 218 24 ((M 218 24) - (nI 1))).bind fun M2 => f_X7_undo_22 fuelN (nI 0) M2
def f_X7_keep_2 : Nat → Int32 → Mem → Option Rv
  | 0, _, _ => none
  | n + 1, x1, M => if x1 < (nI 31088) then ((mrd M 219 31088 x1).bind fun v4 => (mst M 221 31088 x1 v4).bind fun M5 => f_X7_keep_2 n (x1 + nI 1) M5) else (mpz M 218 25 (nI 1)).bind fun M2 => (mrd M2 219 31088 (nI 0)).bind fun v3 => some (v3, M2)
def f_X7_keep (M : Mem) : Option Rv := f_X7_keep_2 fuelN (nI 0) M
def f_X7_restore_16 : Nat → Int32 → Mem → Option Rv
  | 0, _, _ => none
  | n + 1, x1, M => if x1 < (nI 31088) then ((mrd M 221 31088 x1).bind fun v3 => (mst M 219 31088 x1 v3).bind fun M4 => f_X7_restore_16 n (x1 + nI 1) M4) else (mrd M 219 31088 (nI 0)).bind fun v2 => some (v2, M)
def f_X7_restore (M : Mem) : Option Rv := if (M 218 25) = (nI 0) then (some ((-5), M)) else (f_X7_record M).bind fun q2 => f_X7_restore_16 fuelN (nI 0) q2.2
def f_X7_areTrue_41 (k4 : Int32 → Int32 → Int32 → Mem → Option Rv) (x1 : Int32) (x3 : Int32) (s0 : Int32) (M : Mem) : Option Rv := k4 x1 s0 (x3 + nI 1) M
def f_X7_areTrue_40 (k4 : Int32 → Int32 → Int32 → Mem → Option Rv) (x1 : Int32) (x3 : Int32) (M : Mem) : Option Rv := f_X7_areTrue_41 k4 x1 x3 (nI 0) M
def f_X7_areTrue_4 : Nat → Int32 → Int32 → Int32 → Mem → Option Rv
  | 0, _, _, _, _ => none
  | n + 1, x1, x2, x3, M => (f_X7_w x1 M).bind fun q1 => (mrd q1.2 219 31088 (q1.1 + (nI 5))).bind fun v2 => if x3 < v2 then (if x2 = (nI 0) then (f_X7_areTrue_40 (f_X7_areTrue_4 n) x1 x3 q1.2) else (f_X7_loadAlone x1 x3 q1.2).bind fun q5 => (f_X7_isTrue q5.1 q5.2).bind fun q6 => if q6.1 = (nI 0) then (f_X7_areTrue_40 (f_X7_areTrue_4 n) x1 x3 q6.2) else f_X7_areTrue_41 (f_X7_areTrue_4 n) x1 x3 (nI 1) q6.2) else mrz x2 q1.2
def f_X7_areTrue (p1 : Int32) (M : Mem) : Option Rv := f_X7_areTrue_4 fuelN p1 (nI 1) (nI 0) M
def f_X7_sizes_4 : Nat → Int32 → Int32 → Int32 → Mem → Option Rv
  | 0, _, _, _, _ => none
  | n + 1, x1, x2, x3, M => (f_X7_w x1 M).bind fun q1 => (mrd q1.2 219 31088 (q1.1 + (nI 5))).bind fun v2 => if x3 < v2 then ((f_X7_loadAlone x1 x3 q1.2).bind fun q4 => (mrd q4.2 225 8000 q4.1).bind fun v5 => f_X7_sizes_4 n x1 (x2 + v5) (x3 + nI 1) q4.2) else some (x2, q1.2)
def f_X7_sizes (p1 : Int32) (M : Mem) : Option Rv := f_X7_sizes_4 fuelN p1 (nI 0) (nI 0) M
def f_X7_wish_148 (s0 : Int32) (M : Mem) : Option Rv := some (s0, M)
def f_X7_wish (p1 : Int32) (p2 : Int32) (M : Mem) : Option Rv := (f_X7_isThere p1 M).bind fun q1 => if q1.1 = (nI 0) then (some ((-1), q1.2)) else (f_X7_w p1 q1.2).bind fun q3 => if p2 = (nI 0) then ((mrd q3.2 219 31088 (q3.1 + (nI 1))).bind fun v5 => some (v5, q3.2)) else if p2 = (nI 1) then ((mrd q3.2 219 31088 (q3.1 + (nI 5))).bind fun v7 => some (v7, q3.2)) else if p2 = (nI 2) then ((f_X7_partsThat p1 (nI 0) q3.2).bind fun q9 => some (q9.1, q9.2)) else if p2 = (nI 3) then ((f_X7_partsThat p1 (nI 1) q3.2).bind fun q11 => some (q11.1, q11.2)) else if p2 = (nI 4) then ((mrd q3.2 219 31088 (q3.1 + (nI 2))).bind fun v13 => some (v13, q3.2)) else if p2 = (nI 5) then ((mrd q3.2 219 31088 (q3.1 + (nI 3))).bind fun v15 => some (v15, q3.2)) else if p2 = (nI 6) then ((f_X7_verdict p1 q3.2).bind fun q17 => if q17.1 < (nI 2) then ((f_X7_verdict p1 q17.2).bind fun q21 => f_X7_wish_148 q21.1 q21.2) else (f_X7_areTrue p1 q17.2).bind fun q19 => if q19.1 = (nI 0) then (f_X7_wish_148 (nI 0) q19.2) else f_X7_wish_148 (nI 1) q19.2) else if p2 = (nI 7) then ((f_X7_sizes p1 q3.2).bind fun q23 => some (q23.1, q23.2)) else if p2 = (nI 8) then ((mrd q3.2 219 31088 (q3.1 + (nI 4))).bind fun v25 => some (v25, q3.2)) else some ((-2), q3.2)
def f_X7_isPart_34 (s0 : Int32) (M : Mem) : Option Rv := mrz s0 M
def f_X7_isPart_33 (M : Mem) : Option Rv := f_X7_isPart_34 (nI 0) M
def f_X7_isPart (p1 : Int32) (p2 : Int32) (M : Mem) : Option Rv := (f_X7_isThere p1 M).bind fun q1 => if q1.1 = (nI 0) then (f_X7_isPart_33 q1.2) else (f_X7_w p1 q1.2).bind fun q3 => (mrd q3.2 219 31088 (q3.1 + (nI 5))).bind fun v4 => (f_X7_in p2 (nI 0) (v4 - (nI 1)) q3.2).bind fun q5 => if q5.1 = (nI 0) then (f_X7_isPart_33 q5.2) else f_X7_isPart_34 (nI 1) q5.2
def f_X7_letterOf_117 (k5 : Int32 → Int32 → Mem → Option Rv) (x3 : Int32) (x4 : Int32) (x5 : Int32) (M : Mem) : Option Rv := (f_X7_child x3 x5 M).bind fun q1 => k5 q1.1 x4 q1.2
def f_X7_letterOf_82 (k5 : Int32 → Int32 → Mem → Option Rv) (x3 : Int32) (x4 : Int32) (x5 : Int32) (M : Mem) : Option Rv := (f_X7_begins x3 M).bind fun q1 => if q1.1 = (nI 40) then ((f_X7_child x3 x5 q1.2).bind fun q3 => (mrd q3.2 226 8000 q3.1).bind fun v4 => if x4 = v4 then ((f_X7_behind x3 x5 q3.2).bind fun q6 => some (q6.1, q6.2)) else f_X7_letterOf_117 k5 x3 x4 x5 q3.2) else f_X7_letterOf_117 k5 x3 x4 x5 q1.2
def f_X7_letterOf_30 (k5 : Int32 → Int32 → Mem → Option Rv) : Nat → Int32 → Int32 → Int32 → Mem → Option Rv
  | 0, _, _, _, _ => none
  | n + 1, x3, x4, x5, M => (f_X7_begins x3 M).bind fun q1 => if q1.1 = (nI 40) then ((f_X7_child x3 x5 q1.2).bind fun q3 => (mrd q3.2 226 8000 q3.1).bind fun v4 => if v4 < x4 then ((f_X7_child x3 x5 q3.2).bind fun q6 => (mrd q6.2 226 8000 q6.1).bind fun v7 => f_X7_letterOf_30 k5 n x3 (x4 - (v7 + (nI 1))) (x5 + nI 1) q6.2) else f_X7_letterOf_82 k5 x3 x4 x5 q3.2) else f_X7_letterOf_82 k5 x3 x4 x5 q1.2
def f_X7_letterOf_5 : Nat → Int32 → Int32 → Mem → Option Rv
  | 0, _, _, _ => none
  | n + 1, x3, x4, M => if (nI 0) < x4 then (if x3 < (nI 16) then (some (((nI 97) + x3) - (nI 10), M)) else f_X7_letterOf_30 (f_X7_letterOf_5 n) fuelN x3 (x4 - nI 1) (nI 0) M) else (f_X7_begins x3 M).bind fun q2 => some (q2.1, q2.2)
def f_X7_letterOf (p1 : Int32) (p2 : Int32) (M : Mem) : Option Rv := f_X7_letterOf_5 fuelN p1 p2 M
def f_X7_letter_49 (s0 : Int32) (M : Mem) : Option Rv := some (s0, M)
def f_X7_letter (p1 : Int32) (p2 : Int32) (p3 : Int32) (M : Mem) : Option Rv := (f_X7_isPart p1 p2 M).bind fun q1 => if q1.1 = (nI 0) then (some ((-1), q1.2)) else if p3 < (nI 0) then (some ((-2), q1.2)) else (f_X7_loadAlone p1 p2 q1.2).bind fun q4 => (mrd q4.2 226 8000 q4.1).bind fun v5 => if p3 < v5 then ((f_X7_letterOf q4.1 p3 q4.2).bind fun q7 => f_X7_letter_49 q7.1 q7.2) else f_X7_letter_49 (-5) q4.2
def f_X7_signs_46 (k9 : Int32 → Int32 → Mem → Option Rv) (x3 : Int32) (s0 : Int32) (s1 : Int32) (M : Mem) : Option Rv := k9 (s1 ||| s0) (x3 + nI 1) M
def f_X7_signs_39 (k9 : Int32 → Int32 → Mem → Option Rv) (x3 : Int32) (s0 : Int32) (M : Mem) : Option Rv := f_X7_signs_46 k9 x3 ((nI 1) <<< (x3 &&& nI 31)) s0 M
def f_X7_signs_9 : Nat → Int32 → Int32 → Mem → Option Rv
  | 0, _, _, _ => none
  | n + 1, x2, x3, M => if x3 < (nI 6) then ((mrd M 228 8000 ((nI 4) + x3)).bind fun v2 => if v2 = (nI 0) then ((mrd M 228 8000 ((nI 10) + x3)).bind fun v4 => if v4 = (nI 0) then (f_X7_signs_46 (f_X7_signs_9 n) x3 (nI 0) x2 M) else f_X7_signs_39 (f_X7_signs_9 n) x3 x2 M) else f_X7_signs_39 (f_X7_signs_9 n) x3 x2 M) else some (x2, M)
def f_X7_signs (p1 : Int32) (M : Mem) : Option Rv := (f_X7_mark p1 M).bind fun q1 => f_X7_signs_9 fuelN (nI 0) (nI 0) q1.2
def f_X7_part_89 (s0 : Int32) (M : Mem) : Option Rv := some (s0, M)
def f_X7_part (p1 : Int32) (p2 : Int32) (p3 : Int32) (M : Mem) : Option Rv := (f_X7_isPart p1 p2 M).bind fun q1 => if q1.1 = (nI 0) then (some ((-1), q1.2)) else (f_X7_loadAlone p1 p2 q1.2).bind fun q3 => if p3 = (nI 0) then ((mrd q3.2 225 8000 q3.1).bind fun v5 => some (v5, q3.2)) else if p3 = (nI 1) then ((mrd q3.2 226 8000 q3.1).bind fun v7 => some (v7, q3.2)) else if p3 = (nI 2) then ((f_X7_signs q3.1 q3.2).bind fun q9 => some (q9.1, q9.2)) else if p3 = (nI 3) then ((f_X7_isTrue q3.1 q3.2).bind fun q11 => if q11.1 = (nI 0) then (f_X7_part_89 (nI 0) q11.2) else f_X7_part_89 (nI 1) q11.2) else some ((-2), q3.2)
def f_X7_would_44 (s0 : Int32) (M : Mem) : Option Rv := some (s0, M)
def f_X7_would (p1 : Int32) (p2 : Int32) (M : Mem) : Option Rv := (f_X7_isThere p1 M).bind fun q1 => if q1.1 = (nI 0) then (some ((-1), q1.2)) else (f_X7_in p2 (nI 0) (nI 63) q1.2).bind fun q3 => if q3.1 = (nI 0) then (some ((-2), q3.2)) else (mrd q3.2 219 31088 (nI 1)).bind fun v5 => if v5 = (nI 1) then (f_X7_would_44 (-4) q3.2) else (f_X7_wouldBe p1 p2 q3.2).bind fun q7 => f_X7_would_44 q7.1 q7.2
def f_X7_bears_115 (k45 : Int32 → Int32 → Int32 → Int32 → Int32 → Mem → Option Rv) (x1 : Int32) (x2 : Int32) (x3 : Int32) (x5 : Int32) (s0 : Int32) (M : Mem) : Option Rv := k45 x1 x2 x3 s0 (x5 - nI 1) M
def f_X7_bears_101 (k45 : Int32 → Int32 → Int32 → Int32 → Int32 → Mem → Option Rv) (x1 : Int32) (x2 : Int32) (x4 : Int32) (x5 : Int32) (x7 : Int32) (s0 : Int32) (s1 : Int32) (M : Mem) : Option Rv := if x7 = (nI 0) then (f_X7_bears_115 k45 x1 x2 (s1 + s0) x5 x4 M) else f_X7_bears_115 k45 x1 x2 (s1 + s0) x5 x5 M
def f_X7_bears_88 (k45 : Int32 → Int32 → Int32 → Int32 → Int32 → Mem → Option Rv) (x1 : Int32) (x2 : Int32) (x3 : Int32) (x4 : Int32) (x5 : Int32) (s0 : Int32) (M : Mem) : Option Rv := if s0 = (nI 0) then (f_X7_bears_101 k45 x1 x2 x4 x5 s0 (nI 0) x3 M) else f_X7_bears_101 k45 x1 x2 x4 x5 s0 (nI 1) x3 M
def f_X7_bears_135 (s0 : Int32) (M : Mem) : Option Rv := some (s0, M)
def f_X7_bears_45 : Nat → Int32 → Int32 → Int32 → Int32 → Int32 → Mem → Option Rv
  | 0, _, _, _, _, _, _ => none
  | n + 1, x1, x2, x3, x4, x5, M => if x5 < (nI 0) then (if (x2 - x2 / (nI 2) * (nI 2)) = (nI 0) then (f_X7_bears_135 x3 M) else f_X7_bears_135 x4 M) else (f_X7_wouldBe x1 x5 M).bind fun q3 => if x2 < (nI 2) then (if q3.1 = (nI 0) then (f_X7_bears_88 (f_X7_bears_45 n) x1 x2 x3 x4 x5 (nI 0) q3.2) else f_X7_bears_88 (f_X7_bears_45 n) x1 x2 x3 x4 x5 (nI 1) q3.2) else if q3.1 = (nI 1) then (f_X7_bears_88 (f_X7_bears_45 n) x1 x2 x3 x4 x5 (nI 1) q3.2) else f_X7_bears_88 (f_X7_bears_45 n) x1 x2 x3 x4 x5 (nI 0) q3.2
def f_X7_bears (p1 : Int32) (p2 : Int32) (M : Mem) : Option Rv := (f_X7_isThere p1 M).bind fun q1 => if q1.1 = (nI 0) then (some ((-1), q1.2)) else (f_X7_in p2 (nI 0) (nI 3) q1.2).bind fun q3 => if q3.1 = (nI 0) then (some ((-2), q3.2)) else (mrd q3.2 219 31088 (nI 1)).bind fun v5 => if v5 = (nI 1) then (some ((-4), q3.2)) else f_X7_bears_45 fuelN p1 p2 (nI 0) (-5) (nI 63) q3.2
def f_X7_isOpen_22 (s0 : Int32) (M : Mem) : Option Rv := mrz s0 M
def f_X7_isOpen_21 (M : Mem) : Option Rv := f_X7_isOpen_22 (nI 0) M
def f_X7_isOpen (p1 : Int32) (M : Mem) : Option Rv := (f_X7_isThere p1 M).bind fun q1 => if q1.1 = (nI 0) then (f_X7_isOpen_21 q1.2) else (f_X7_verdict p1 q1.2).bind fun q3 => if q3.1 = (nI 2) then (f_X7_isOpen_22 (nI 1) q3.2) else f_X7_isOpen_21 q3.2
def f_X7_open_34 (k9 : Int32 → Int32 → Mem → Option Rv) (x1 : Int32) (x2 : Int32) (M : Mem) : Option Rv := k9 x1 (x2 + nI 1) M
def f_X7_open_126 (k45 : Int32 → Int32 → Int32 → Mem → Option Rv) (k57 : Int32 → Int32 → Int32 → Int32 → Int32 → Mem → Option Rv) (x1 : Int32) (x2 : Int32) (x3 : Int32) (x5 : Int32) (s0 : Int32) (s1 : Int32) (M : Mem) : Option Rv := k57 x1 x2 x3 (s1 + s0) (x5 + nI 1) M
def f_X7_open_121 (k45 : Int32 → Int32 → Int32 → Mem → Option Rv) (k57 : Int32 → Int32 → Int32 → Int32 → Int32 → Mem → Option Rv) (x1 : Int32) (x2 : Int32) (x3 : Int32) (x5 : Int32) (s0 : Int32) (M : Mem) : Option Rv := f_X7_open_126 k45 k57 x1 x2 x3 x5 (nI 1) s0 M
def f_X7_open_125 (k45 : Int32 → Int32 → Int32 → Mem → Option Rv) (k57 : Int32 → Int32 → Int32 → Int32 → Int32 → Mem → Option Rv) (x1 : Int32) (x2 : Int32) (x3 : Int32) (x5 : Int32) (s0 : Int32) (M : Mem) : Option Rv := f_X7_open_126 k45 k57 x1 x2 x3 x5 (nI 0) s0 M
def f_X7_open_154 (k45 : Int32 → Int32 → Int32 → Mem → Option Rv) (x1 : Int32) (x3 : Int32) (s0 : Int32) (M : Mem) : Option Rv := k45 x1 s0 (x3 + nI 1) M
def f_X7_open_153 (k45 : Int32 → Int32 → Int32 → Mem → Option Rv) (x1 : Int32) (x2 : Int32) (x3 : Int32) (M : Mem) : Option Rv := f_X7_open_154 k45 x1 x3 x2 M
def f_X7_open_135 (k45 : Int32 → Int32 → Int32 → Mem → Option Rv) (x1 : Int32) (x2 : Int32) (x3 : Int32) (x4 : Int32) (M : Mem) : Option Rv := (f_X7_isOpen x3 M).bind fun q1 => if q1.1 = (nI 0) then (f_X7_open_153 k45 x1 x2 x3 q1.2) else if x4 = x1 then (f_X7_open_154 k45 x1 x3 x3 q1.2) else f_X7_open_153 k45 x1 x2 x3 q1.2
def f_X7_open_57 (k45 : Int32 → Int32 → Int32 → Mem → Option Rv) : Nat → Int32 → Int32 → Int32 → Int32 → Int32 → Mem → Option Rv
  | 0, _, _, _, _, _, _ => none
  | n + 1, x1, x2, x3, x4, x5, M => if x5 < (nI 8) then ((f_X7_isOpen x3 M).bind fun q2 => if q2.1 = (nI 0) then (f_X7_open_135 k45 x1 x2 x3 x4 q2.2) else (f_X7_isOpen x5 q2.2).bind fun q4 => if q4.1 = (nI 0) then (f_X7_open_125 k45 (f_X7_open_57 k45 n) x1 x2 x3 x5 x4 q4.2) else (mrd q4.2 231 64 x5).bind fun v6 => (mrd q4.2 231 64 x3).bind fun v7 => if v7 < v6 then (f_X7_open_121 k45 (f_X7_open_57 k45 n) x1 x2 x3 x5 x4 q4.2) else (mrd q4.2 231 64 x5).bind fun v9 => (mrd q4.2 231 64 x3).bind fun v10 => if v9 = v10 then (if x5 < x3 then (f_X7_open_121 k45 (f_X7_open_57 k45 n) x1 x2 x3 x5 x4 q4.2) else f_X7_open_125 k45 (f_X7_open_57 k45 n) x1 x2 x3 x5 x4 q4.2) else f_X7_open_125 k45 (f_X7_open_57 k45 n) x1 x2 x3 x5 x4 q4.2) else f_X7_open_135 k45 x1 x2 x3 x4 M
def f_X7_open_45 : Nat → Int32 → Int32 → Int32 → Mem → Option Rv
  | 0, _, _, _, _ => none
  | n + 1, x1, x2, x3, M => if x3 < (nI 8) then (f_X7_open_57 (f_X7_open_45 n) fuelN x1 x2 x3 (nI 0) (nI 0) M) else some (x2, M)
def f_X7_open_9 : Nat → Int32 → Int32 → Mem → Option Rv
  | 0, _, _, _ => none
  | n + 1, x1, x2, M => if x2 < (nI 8) then ((f_X7_isOpen x2 M).bind fun q2 => if q2.1 = (nI 0) then (f_X7_open_34 (f_X7_open_9 n) x1 x2 q2.2) else (f_X7_sizes x2 q2.2).bind fun q4 => (mst q4.2 231 64 x2 q4.1).bind fun M5 => f_X7_open_34 (f_X7_open_9 n) x1 x2 M5) else f_X7_open_45 fuelN x1 (-5) (nI 0) M
def f_X7_open (p1 : Int32) (M : Mem) : Option Rv := if p1 < (nI 0) then (some ((-2), M)) else f_X7_open_9 fuelN p1 (nI 0) M
def f_X7_at_32 (s0 : Int32) (M : Mem) : Option Rv := some (s0, M)
def f_X7_at (p1 : Int32) (M : Mem) : Option Rv := if p1 < (nI 0) then (f_X7_at_32 (-2) M) else (mrd M 219 31088 (nI 0)).bind fun v2 => if p1 < v2 then ((mrd M 219 31088 ((nI 4) + p1)).bind fun v4 => f_X7_at_32 v4 M) else f_X7_at_32 (-5) M
def f_X7_wishesThat_33 (k4 : Int32 → Int32 → Int32 → Mem → Option Rv) (x1 : Int32) (x3 : Int32) (s0 : Int32) (s1 : Int32) (M : Mem) : Option Rv := k4 x1 (s1 + s0) (x3 + nI 1) M
def f_X7_wishesThat_32 (k4 : Int32 → Int32 → Int32 → Mem → Option Rv) (x1 : Int32) (x3 : Int32) (s0 : Int32) (M : Mem) : Option Rv := f_X7_wishesThat_33 k4 x1 x3 (nI 0) s0 M
def f_X7_wishesThat_4 : Nat → Int32 → Int32 → Int32 → Mem → Option Rv
  | 0, _, _, _, _ => none
  | n + 1, x1, x2, x3, M => if x3 < (nI 8) then ((f_X7_isThere x3 M).bind fun q2 => if q2.1 = (nI 0) then (f_X7_wishesThat_32 (f_X7_wishesThat_4 n) x1 x3 x2 q2.2) else (f_X7_verdict x3 q2.2).bind fun q4 => if q4.1 = x1 then (f_X7_wishesThat_33 (f_X7_wishesThat_4 n) x1 x3 (nI 1) x2 q4.2) else f_X7_wishesThat_32 (f_X7_wishesThat_4 n) x1 x3 x2 q4.2) else some (x2, M)
def f_X7_wishesThat (p1 : Int32) (M : Mem) : Option Rv := f_X7_wishesThat_4 fuelN p1 (nI 0) (nI 0) M
def f_X7_count (p1 : Int32) (M : Mem) : Option Rv := if p1 = (nI 0) then ((mrd M 219 31088 (nI 0)).bind fun v2 => some (v2, M)) else if p1 = (nI 1) then ((mrd M 219 31088 (nI 1)).bind fun v4 => some (v4, M)) else if p1 = (nI 2) then ((f_X7_thereMany M).bind fun q6 => some (q6.1, q6.2)) else if p1 = (nI 3) then ((mrd M 219 31088 (nI 2)).bind fun v8 => some (v8, M)) else if p1 = (nI 4) then ((f_X7_wishesThat (nI 2) M).bind fun q10 => some (q10.1, q10.2)) else if p1 = (nI 5) then ((f_X7_wishesThat (nI 0) M).bind fun q12 => some (q12.1, q12.2)) else if p1 = (nI 6) then ((f_X7_wishesThat (nI 1) M).bind fun q14 => some (q14.1, q14.2)) else if p1 = (nI 7) then (some (M 218 24, M)) else if p1 = (nI 8) then (some (M 218 23, M)) else some ((-2), M)
