/-! what the model answers (texts of wip/gen/gen.py), no walks -/
def jf_Mo_in (x0 : Int32) (x1 : Int32) (x2 : Int32) : Int32 :=
  if x0 < x1 then 0 else (if x2 < x0 then 0 else 1)
def jf_Mo_isCell (x0 : Int32) (x1 : Int32) : Int32 :=
  if (jf_Mo_in x0 0 7) = 0 then 0 else (if (jf_Mo_in x1 0 7) = 0 then 0 else 1)
def jf_Mo_withCode_L2 (n0 : Nat) (v_r0 : Nat → Int32) (z1 : Int32) (z2 : Int32) : Nat → Int32 → Option (Unit ⊕ Unit)
  | 0, _ => none
  | n + 1, z3 =>
    if z1 ≤ z3 then (some (.inr ())) else (if jin z3 n0 = true then (if v_r0 z3.toNatClampNeg = z2 then (some (.inl ())) else ((jf_Mo_withCode_L2 n0 v_r0 z1 z2 n) (z3 + 1))) else none)
def jf_Mo_laysBehind_below_L17 (z2 : Int32) (z3 : Int32) : Nat → Int32 → (Nat → Int32) → Option (Int32 × (Nat → Int32))
  | 0, _, _ => none
  | n + 1, z4, v_below =>
    if jin (z4 - 1) 6 = true then (if v_below (z4 - 1).toNatClampNeg = z2 then (some (z4, v_below)) else (if jin (z4 - 1) 6 = true then (if jin z4 6 = true then ((jf_Mo_laysBehind_below_L17 z2 z3 n) (z4 + (-1)) (upd v_below z4.toNatClampNeg (v_below (z4 - 1).toNatClampNeg))) else none) else none)) else none
def jf_Mo_laysBehind_below (v_intervals : Int32) (v_below : Nat → Int32) (x2 : Int32) : Option (Nat → Int32) :=
  if jin (v_intervals - 1) 6 = true then (jlet (v_below (v_intervals - 1).toNatClampNeg) (fun y3_1 => jlet (v_intervals - 1) (fun y4_1 => Option.bind (jf_Mo_laysBehind_below_L17 x2 y3_1 jF y4_1 v_below) (fun q_1 => if jin q_1.1 6 = true then (some (upd q_1.2 q_1.1.toNatClampNeg y3_1)) else none)))) else none
def jf_Mo_laysBehind_above_L17 (z2 : Int32) (z3 : Int32) : Nat → Int32 → (Nat → Int32) → Option (Int32 × (Nat → Int32))
  | 0, _, _ => none
  | n + 1, z4, v_above =>
    if jin (z4 - 1) 6 = true then (if v_above (z4 - 1).toNatClampNeg = z2 then (some (z4, v_above)) else (if jin (z4 - 1) 6 = true then (if jin z4 6 = true then ((jf_Mo_laysBehind_above_L17 z2 z3 n) (z4 + (-1)) (upd v_above z4.toNatClampNeg (v_above (z4 - 1).toNatClampNeg))) else none) else none)) else none
def jf_Mo_laysBehind_above (v_intervals : Int32) (v_above : Nat → Int32) (x2 : Int32) : Option (Nat → Int32) :=
  if jin (v_intervals - 1) 6 = true then (jlet (v_above (v_intervals - 1).toNatClampNeg) (fun y3_1 => jlet (v_intervals - 1) (fun y4_1 => Option.bind (jf_Mo_laysBehind_above_L17 x2 y3_1 jF y4_1 v_above) (fun q_1 => if jin q_1.1 6 = true then (some (upd q_1.2 q_1.1.toNatClampNeg y3_1)) else none)))) else none
def jf_Mo_goes_above_below_L6 (v_above : Nat → Int32) (v_length : Nat → Int32) (z1 : Int32) : Nat → Int32 → Int32 → Option (Int32 × Int32)
  | 0, _, _ => none
  | n + 1, z4, z5 =>
    if jin z4 6 = true then (if jin (v_above z4.toNatClampNeg) 6 = true then (if z1 < z5 + (v_length (v_above z4.toNatClampNeg).toNatClampNeg) then (some (z4, z5)) else (if jin z4 6 = true then (if jin (v_above z4.toNatClampNeg) 6 = true then (jlet (z5 + (v_length (v_above z4.toNatClampNeg).toNatClampNeg)) (fun y5_1 => (jf_Mo_goes_above_below_L6 v_above v_length z1 n) (z4 + 1) y5_1)) else none) else none)) else none) else none
def jf_Mo_goes_above_below_L48 (v_above : Nat → Int32) (v_below : Nat → Int32) (v_length : Nat → Int32) (z1 : Int32) (z4 : Int32) (z5 : Int32) : Nat → Int32 → Int32 → Option Int32
  | 0, _, _ => none
  | n + 1, z6, z7 =>
    if jin z7 6 = true then (if jin z4 6 = true then (if v_below z7.toNatClampNeg = v_above z4.toNatClampNeg then (some z6) else (if jin z7 6 = true then (if jin (v_below z7.toNatClampNeg) 6 = true then (jlet (z6 + (v_length (v_below z7.toNatClampNeg).toNatClampNeg)) (fun y6_1 => (jf_Mo_goes_above_below_L48 v_above v_below v_length z1 z4 z5 n) y6_1 (z7 + 1))) else none) else none)) else none) else none
def jf_Mo_goes_above_below (v_above : Nat → Int32) (v_below : Nat → Int32) (v_length : Nat → Int32) (x1 : Int32) : Option Int32 :=
  Option.bind (jf_Mo_goes_above_below_L6 v_above v_length x1 jF 0 0) (fun q_1 => Option.bind (jf_Mo_goes_above_below_L48 v_above v_below v_length x1 q_1.1 q_1.2 jF 0 0) (fun q_2 => some ((q_2 + x1) - q_1.2)))
def jf_Mo_goes_below_above_L6 (v_below : Nat → Int32) (v_length : Nat → Int32) (z1 : Int32) : Nat → Int32 → Int32 → Option (Int32 × Int32)
  | 0, _, _ => none
  | n + 1, z4, z5 =>
    if jin z4 6 = true then (if jin (v_below z4.toNatClampNeg) 6 = true then (if z1 < z5 + (v_length (v_below z4.toNatClampNeg).toNatClampNeg) then (some (z4, z5)) else (if jin z4 6 = true then (if jin (v_below z4.toNatClampNeg) 6 = true then (jlet (z5 + (v_length (v_below z4.toNatClampNeg).toNatClampNeg)) (fun y5_1 => (jf_Mo_goes_below_above_L6 v_below v_length z1 n) (z4 + 1) y5_1)) else none) else none)) else none) else none
def jf_Mo_goes_below_above_L48 (v_above : Nat → Int32) (v_below : Nat → Int32) (v_length : Nat → Int32) (z1 : Int32) (z4 : Int32) (z5 : Int32) : Nat → Int32 → Int32 → Option Int32
  | 0, _, _ => none
  | n + 1, z6, z7 =>
    if jin z7 6 = true then (if jin z4 6 = true then (if v_above z7.toNatClampNeg = v_below z4.toNatClampNeg then (some z6) else (if jin z7 6 = true then (if jin (v_above z7.toNatClampNeg) 6 = true then (jlet (z6 + (v_length (v_above z7.toNatClampNeg).toNatClampNeg)) (fun y6_1 => (jf_Mo_goes_below_above_L48 v_above v_below v_length z1 z4 z5 n) y6_1 (z7 + 1))) else none) else none)) else none) else none
