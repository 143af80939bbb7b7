/-! what the model answers (texts of wip/gen/gen.py), no walks -/
def jf_Mo_thrown (v_thrown : Int32) : Int32 :=
  v_thrown
def jf_Mo_in (x0 : Int32) (x1 : Int32) (x2 : Int32) : Int32 :=
  if x0 < x1 then 0 else (if x2 < x0 then 0 else 1)
def jf_Mo_isCell (x0 : Int32) (x1 : Int32) : Int32 :=
  if (jf_Mo_in x0 0 7) = 0 then 0 else (if (jf_Mo_in x1 0 7) = 0 then 0 else 1)
def jf_Mo_isFloor (v_isBlock : Nat → Int32) (x1 : Int32) (x2 : Int32) : Option Int32 :=
  if (jf_Mo_isCell x1 x2) = 0 then (some 0) else (if jin ((8 * x2) + x1) 64 = true then (if v_isBlock ((8 * x2) + x1).toNatClampNeg = 0 then (some 1) else (some 0)) else none)
def jf_Mo_block_b14 (v_thrown : Int32) (v_isBlock : Nat → Int32) (z1 : Int32) (z2 : Int32) (z3 : Int32) (s1 : Int32) : Option (Int32 × Int32 × (Nat → Int32)) :=
  if s1 ≤ 0 then (if jin ((8 * z2) + z1) 64 = true then (jlet (v_isBlock ((8 * z2) + z1).toNatClampNeg) (fun y4_1 => if jin ((8 * z2) + z1) 64 = true then (some (y4_1 &&& 1, s1, upd v_isBlock ((8 * z2) + z1).toNatClampNeg (z3 &&& 1))) else none)) else none) else (some (0, s1, v_isBlock))
def jf_Mo_block (v_thrown : Int32) (v_isBlock : Nat → Int32) (x1 : Int32) (x2 : Int32) (x3 : Int32) : Option (Int32 × Int32 × (Nat → Int32)) :=
  if (jf_Mo_isCell x1 x2) = 0 then (jf_Mo_block_b14 v_thrown v_isBlock x1 x2 x3 1) else (jf_Mo_block_b14 v_thrown v_isBlock x1 x2 x3 0)
def jf_Mo_stateOf_b22 (s0 : Int32) (s1 : Int32) : Int32 :=
  s0 + s1
def jf_Mo_stateOf (x0 : Int32) (x1 : Int32) (x2 : Int32) (x3 : Int32) : Int32 :=
  if x3 = 0 then (jf_Mo_stateOf_b22 ((x0 + (8 * x1)) + (64 * x2)) 0) else (jf_Mo_stateOf_b22 ((x0 + (8 * x1)) + (64 * x2)) 256)
def jf_Mo_step_b142 (v_isBounce : Int32) (v_isBlock : Nat → Int32) (z2 : Int32) (z3 : Int32) (z7 : Int32) (z9 : Int32) (z10 : Int32) (s0 : Int32) : Option (Int32 × Int32) :=
  Option.bind (jf_Mo_isFloor v_isBlock z9 z10) (fun q_1 => if q_1 = 0 then (if (1 : Int32) = 0 then (some ((jf_Mo_stateOf z9 z10 ((s0 + 2) - (s0 + 2) / 4 * 4) z7), 1)) else (some ((jf_Mo_stateOf z2 z3 s0 z7), 1))) else (if (0 : Int32) = 0 then (some ((jf_Mo_stateOf z9 z10 ((s0 + 2) - (s0 + 2) / 4 * 4) z7), 0)) else (some ((jf_Mo_stateOf z2 z3 s0 z7), 0))))
def jf_Mo_step_b112 (v_isBounce : Int32) (v_isBlock : Nat → Int32) (z2 : Int32) (z3 : Int32) (z5 : Int32) (z6 : Int32) (z7 : Int32) (z9 : Int32) (s0 : Int32) : Option (Int32 × Int32) :=
  if z6 = 0 then (if z5 = 0 then (jf_Mo_step_b142 v_isBounce v_isBlock z2 z3 z7 z9 s0 1) else (jf_Mo_step_b142 v_isBounce v_isBlock z2 z3 z7 z9 s0 3)) else (if z5 = 0 then (jf_Mo_step_b142 v_isBounce v_isBlock z2 z3 z7 z9 s0 0) else (jf_Mo_step_b142 v_isBounce v_isBlock z2 z3 z7 z9 s0 2))
def jf_Mo_step_b97 (v_isBounce : Int32) (v_isBlock : Nat → Int32) (z2 : Int32) (z3 : Int32) (z5 : Int32) (z6 : Int32) (z7 : Int32) (z8 : Int32) (s0 : Int32) : Option (Int32 × Int32) :=
  if z6 = 0 then (jf_Mo_step_b112 v_isBounce v_isBlock z2 z3 z5 z6 z7 s0 (z3 + z8)) else (jf_Mo_step_b112 v_isBounce v_isBlock z2 z3 z5 z6 z7 s0 z3)
def jf_Mo_step_b82 (v_isBounce : Int32) (v_isBlock : Nat → Int32) (z2 : Int32) (z3 : Int32) (z5 : Int32) (z6 : Int32) (z7 : Int32) (s0 : Int32) : Option (Int32 × Int32) :=
  if z6 = 0 then (jf_Mo_step_b97 v_isBounce v_isBlock z2 z3 z5 z6 z7 s0 z2) else (jf_Mo_step_b97 v_isBounce v_isBlock z2 z3 z5 z6 z7 s0 (z2 + s0))
def jf_Mo_step_b70 (v_isBounce : Int32) (v_isBlock : Nat → Int32) (z2 : Int32) (z3 : Int32) (z5 : Int32) (z6 : Int32) (s0 : Int32) : Option (Int32 × Int32) :=
  if z5 = 0 then (jf_Mo_step_b82 v_isBounce v_isBlock z2 z3 z5 z6 s0 (-1)) else (jf_Mo_step_b82 v_isBounce v_isBlock z2 z3 z5 z6 s0 1)
def jf_Mo_step_b65 (v_isBounce : Int32) (v_isBlock : Nat → Int32) (z2 : Int32) (z3 : Int32) (z5 : Int32) (z6 : Int32) : Option (Int32 × Int32) :=
  jf_Mo_step_b70 v_isBounce v_isBlock z2 z3 z5 z6 1
def jf_Mo_step_b52 (v_isBounce : Int32) (v_isBlock : Nat → Int32) (z2 : Int32) (z3 : Int32) (z4 : Int32) (z5 : Int32) (s0 : Int32) : Option (Int32 × Int32) :=
  if z4 = 0 then (jf_Mo_step_b65 v_isBounce v_isBlock z2 z3 z5 s0) else (if z4 = 1 then (jf_Mo_step_b65 v_isBounce v_isBlock z2 z3 z5 s0) else (jf_Mo_step_b70 v_isBounce v_isBlock z2 z3 z5 s0 0))
def jf_Mo_step_b47 (v_isBounce : Int32) (v_isBlock : Nat → Int32) (z2 : Int32) (z3 : Int32) (z4 : Int32) (z5 : Int32) : Option (Int32 × Int32) :=
  jf_Mo_step_b52 v_isBounce v_isBlock z2 z3 z4 z5 1
def jf_Mo_step_b33 (v_isBounce : Int32) (v_isBlock : Nat → Int32) (z2 : Int32) (z3 : Int32) (z4 : Int32) (s0 : Int32) : Option (Int32 × Int32) :=
  if z4 = 1 then (jf_Mo_step_b47 v_isBounce v_isBlock z2 z3 z4 s0) else (if z4 = 3 then (jf_Mo_step_b47 v_isBounce v_isBlock z2 z3 z4 s0) else (jf_Mo_step_b52 v_isBounce v_isBlock z2 z3 z4 s0 0))
def jf_Mo_step (v_isBounce : Int32) (v_isBlock : Nat → Int32) (x1 : Int32) : Option (Int32 × Int32) :=
  jlet (x1 - x1 / 8 * 8) (fun y2_1 => jlet ((x1 / 8) - (x1 / 8) / 8 * 8) (fun y3_1 => jlet ((x1 / 64) - (x1 / 64) / 4 * 4) (fun y4_1 => if x1 < 256 then (jf_Mo_step_b33 v_isBounce v_isBlock y2_1 y3_1 y4_1 0) else (jf_Mo_step_b33 v_isBounce v_isBlock y2_1 y3_1 y4_1 1))))
def jf_Mo_asksShot_b45 (v_thrown : Int32) (s1 : Int32) : Option (Int32 × Int32) :=
  if s1 = 0 then (some (1, s1)) else (some (0, s1))
def jf_Mo_asksShot_b27 (v_thrown : Int32) : Option (Int32 × Int32) :=
  jf_Mo_asksShot_b45 v_thrown 2
def jf_Mo_asksShot (v_thrown : Int32) (v_isBlock : Nat → Int32) (x1 : Int32) (x2 : Int32) (x3 : Int32) (x4 : Int32) : Option (Int32 × Int32) :=
  if (jf_Mo_isCell x1 x2) = 0 then (jf_Mo_asksShot_b45 v_thrown 1) else (if (jf_Mo_in x3 0 3) = 0 then (jf_Mo_asksShot_b27 v_thrown) else (if x4 = 0 then (jf_Mo_asksShot_b27 v_thrown) else (Option.bind (jf_Mo_isFloor v_isBlock x1 x2) (fun q_1 => if q_1 = 0 then (jf_Mo_asksShot_b45 v_thrown 3) else (jf_Mo_asksShot_b45 v_thrown 0)))))
def jf_Mo_periodOf_L8 (v_isBlock : Nat → Int32) (z1 : Int32) : Nat → Int32 → Int32 → Int32 → Option (Int32 × Int32)
  | 0, _, _, _ => none
  | n + 1, z2, z3, v_isBounce =>
    if z3 = z1 then (some (z2, v_isBounce)) else (Option.bind (jf_Mo_step v_isBounce v_isBlock z3) (fun q_2 => (jf_Mo_periodOf_L8 v_isBlock z1 n) (z2 + 1) q_2.1 q_2.2))
def jf_Mo_periodOf (v_isBounce : Int32) (v_isBlock : Nat → Int32) (x1 : Int32) : Option (Int32 × Int32) :=
  Option.bind (jf_Mo_step v_isBounce v_isBlock x1) (fun q_1 => Option.bind (jf_Mo_periodOf_L8 v_isBlock x1 jF 1 q_1.1 q_1.2) (fun q_3 => some (q_3.1, q_3.2)))
def jf_Mo_period (v_thrown : Int32) (v_isBounce : Int32) (v_isBlock : Nat → Int32) (x1 : Int32) (x2 : Int32) (x3 : Int32) (x4 : Int32) : Option (Int32 × Int32 × Int32) :=
  Option.bind (jf_Mo_asksShot v_thrown v_isBlock x1 x2 x3 1) (fun q_1 => if q_1.1 = 0 then (some (0, q_1.2, v_isBounce)) else (Option.bind (jf_Mo_periodOf v_isBounce v_isBlock (jf_Mo_stateOf x1 x2 x3 x4)) (fun q_2 => some (q_2.1, q_1.2, q_2.2))))
def jf_Mo_periodAnew (v_thrown : Int32) (v_isBounce : Int32) (v_isBlock : Nat → Int32) (x1 : Int32) (x2 : Int32) (x3 : Int32) (x4 : Int32) : Option (Int32 × Int32 × Int32) :=
  Option.bind (jf_Mo_period v_thrown v_isBounce v_isBlock x1 x2 x3 x4) (fun q_1 => some (q_1.1, q_1.2.1, q_1.2.2))
def jf_Mo_bouncesOf_b43 (self : Int32 → Int32 → Int32 → Int32 → Option (Int32 × Int32)) (v_isBounce : Int32) (v_isBlock : Nat → Int32) (z1 : Int32) (z2 : Int32) (z3 : Int32) (s0 : Int32) : Option (Int32 × Int32) :=
  self z2 z3 s0 v_isBounce
def jf_Mo_bouncesOf_b31 (self : Int32 → Int32 → Int32 → Int32 → Option (Int32 × Int32)) (v_isBounce : Int32) (v_isBlock : Nat → Int32) (z1 : Int32) (z3 : Int32) (s0 : Int32) (s1 : Int32) : Option (Int32 × Int32) :=
  jlet (s0 + s1) (fun y2_1 => if z3 = z1 then (jf_Mo_bouncesOf_b43 self v_isBounce v_isBlock z1 y2_1 z3 0) else (jf_Mo_bouncesOf_b43 self v_isBounce v_isBlock z1 y2_1 z3 1))
def jf_Mo_bouncesOf_L7 (v_isBlock : Nat → Int32) (z1 : Int32) : Nat → Int32 → Int32 → Int32 → Int32 → Option (Int32 × Int32)
  | 0, _, _, _, _ => none
  | n + 1, z2, z3, z4, v_isBounce =>
    if z4 = 0 then (some (z2, v_isBounce)) else (Option.bind (jf_Mo_step v_isBounce v_isBlock z3) (fun q_1 => if q_1.2 = 0 then (jf_Mo_bouncesOf_b31 (jf_Mo_bouncesOf_L7 v_isBlock z1 n) q_1.2 v_isBlock z1 q_1.1 z2 0) else (jf_Mo_bouncesOf_b31 (jf_Mo_bouncesOf_L7 v_isBlock z1 n) q_1.2 v_isBlock z1 q_1.1 z2 1)))
def jf_Mo_bouncesOf (v_isBounce : Int32) (v_isBlock : Nat → Int32) (x1 : Int32) : Option (Int32 × Int32) :=
  Option.bind (jf_Mo_bouncesOf_L7 v_isBlock x1 jF 0 x1 1 v_isBounce) (fun q_2 => some (q_2.1, q_2.2))
def jf_Mo_bounces (v_thrown : Int32) (v_isBounce : Int32) (v_isBlock : Nat → Int32) (x1 : Int32) (x2 : Int32) (x3 : Int32) (x4 : Int32) : Option (Int32 × Int32 × Int32) :=
  Option.bind (jf_Mo_asksShot v_thrown v_isBlock x1 x2 x3 1) (fun q_1 => if q_1.1 = 0 then (some (0, q_1.2, v_isBounce)) else (Option.bind (jf_Mo_bouncesOf v_isBounce v_isBlock (jf_Mo_stateOf x1 x2 x3 x4)) (fun q_2 => some (q_2.1, q_1.2, q_2.2))))
def jf_Mo_forgets_L2 : Nat → Int32 → (Nat → Int32) → Option (Nat → Int32)
  | 0, _, _ => none
  | n + 1, z1, v_isSeen =>
    if 512 ≤ z1 then (some v_isSeen) else (if jin z1 512 = true then ((jf_Mo_forgets_L2 n) (z1 + 1) (upd v_isSeen z1.toNatClampNeg (0 &&& 1))) else none)
def jf_Mo_forgets (v_isSeen : Nat → Int32) : Option (Nat → Int32) :=
  Option.bind (jf_Mo_forgets_L2 jF 0 v_isSeen) (fun q_1 => some q_1)
def jf_Mo_touched_b96 (self : Int32 → Int32 → Int32 → Int32 → (Nat → Int32) → Option (Int32 × Int32 × (Nat → Int32))) (v_isBounce : Int32) (v_isBlock : Nat → Int32) (v_isSeen : Nat → Int32) (z5 : Int32) (z6 : Int32) (z7 : Int32) (s0 : Int32) : Option (Int32 × Int32 × (Nat → Int32)) :=
  self z6 z7 s0 v_isBounce v_isSeen
def jf_Mo_touched_b62 (self : Int32 → Int32 → Int32 → Int32 → (Nat → Int32) → Option (Int32 × Int32 × (Nat → Int32))) (v_isBounce : Int32) (v_isBlock : Nat → Int32) (v_isSeen : Nat → Int32) (z5 : Int32) (z6 : Int32) (s0 : Int32) (s1 : Int32) : Option (Int32 × Int32 × (Nat → Int32)) :=
  jlet (s0 + s1) (fun y7_1 => if jin (z6 - z6 / 64 * 64) 512 = true then (Option.bind (jf_Mo_step v_isBounce v_isBlock z6) (fun q_3 => if q_3.1 = z5 then (jf_Mo_touched_b96 self q_3.2 v_isBlock (upd v_isSeen (z6 - z6 / 64 * 64).toNatClampNeg (1 &&& 1)) z5 q_3.1 y7_1 0) else (jf_Mo_touched_b96 self q_3.2 v_isBlock (upd v_isSeen (z6 - z6 / 64 * 64).toNatClampNeg (1 &&& 1)) z5 q_3.1 y7_1 1))) else none)
def jf_Mo_touched_L37 (v_isBlock : Nat → Int32) (z5 : Int32) : Nat → Int32 → Int32 → Int32 → Int32 → (Nat → Int32) → Option (Int32 × Int32 × (Nat → Int32))
  | 0, _, _, _, _, _ => none
  | n + 1, z6, z7, z8, v_isBounce, v_isSeen =>
    if z8 = 0 then (some (z7, v_isBounce, v_isSeen)) else (if jin (z6 - z6 / 64 * 64) 512 = true then (if v_isSeen (z6 - z6 / 64 * 64).toNatClampNeg = 0 then (jf_Mo_touched_b62 (jf_Mo_touched_L37 v_isBlock z5 n) v_isBounce v_isBlock v_isSeen z5 z6 z7 1) else (jf_Mo_touched_b62 (jf_Mo_touched_L37 v_isBlock z5 n) v_isBounce v_isBlock v_isSeen z5 z6 z7 0)) else none)
def jf_Mo_touched (v_thrown : Int32) (v_isBounce : Int32) (v_isBlock : Nat → Int32) (v_isSeen : Nat → Int32) (x1 : Int32) (x2 : Int32) (x3 : Int32) (x4 : Int32) : Option (Int32 × Int32 × Int32 × (Nat → Int32)) :=
  Option.bind (jf_Mo_asksShot v_thrown v_isBlock x1 x2 x3 1) (fun q_1 => if q_1.1 = 0 then (some (0, q_1.2, v_isBounce, v_isSeen)) else (Option.bind (jf_Mo_forgets v_isSeen) (fun q_2 => jlet (jf_Mo_stateOf x1 x2 x3 x4) (fun y5_1 => Option.bind (jf_Mo_touched_L37 v_isBlock y5_1 jF y5_1 0 1 v_isBounce q_2) (fun q_4 => some (q_4.1, q_1.2, q_4.2.1, q_4.2.2))))))
def jf_Mo_bounce_b70 (self : Int32 → Int32 → Int32 → Option (Int32 × Int32)) (v_isBounce : Int32) (v_isBlock : Nat → Int32) (z6 : Int32) (s0 : Int32) (s1 : Int32) : Option (Int32 × Int32) :=
  jlet (s0 - s1) (fun y7_2 => self z6 y7_2 v_isBounce)
def jf_Mo_bounce_L43 (v_isBlock : Nat → Int32) : Nat → Int32 → Int32 → Int32 → Option (Int32 × Int32)
  | 0, _, _, _ => none
  | n + 1, z6, z7, v_isBounce =>
    if z7 ≤ 0 then (some (z6, v_isBounce)) else (Option.bind (jf_Mo_step v_isBounce v_isBlock z6) (fun q_3 => if q_3.2 = 0 then (jf_Mo_bounce_b70 (jf_Mo_bounce_L43 v_isBlock n) q_3.2 v_isBlock q_3.1 z7 0) else (jf_Mo_bounce_b70 (jf_Mo_bounce_L43 v_isBlock n) q_3.2 v_isBlock q_3.1 z7 1)))
def jf_Mo_bounce (v_thrown : Int32) (v_isBounce : Int32) (v_isBlock : Nat → Int32) (x1 : Int32) (x2 : Int32) (x3 : Int32) (x4 : Int32) (x5 : Int32) : Option (Int32 × Int32 × Int32) :=
  Option.bind (jf_Mo_asksShot v_thrown v_isBlock x1 x2 x3 (jf_Mo_in x5 0 100000)) (fun q_1 => if q_1.1 = 0 then (some (0, q_1.2, v_isBounce)) else (jlet (jf_Mo_stateOf x1 x2 x3 x4) (fun y6_1 => Option.bind (jf_Mo_bouncesOf v_isBounce v_isBlock y6_1) (fun q_2 => if q_2.1 = 0 then none else jlet ((x5 - x5 / q_2.1 * q_2.1) + 1) (fun y7_1 => Option.bind (jf_Mo_bounce_L43 v_isBlock jF y6_1 y7_1 q_2.2) (fun q_4 => some ((q_4.1 / 64) - (q_4.1 / 64) / 4 * 4, q_1.2, q_4.2)))))))
def jf_Mo_state_L46 (v_isBlock : Nat → Int32) (z7 : Int32) : Nat → Int32 → Int32 → Int32 → Option (Int32 × Int32)
  | 0, _, _, _ => none
  | n + 1, z6, z8, v_isBounce =>
    if z7 ≤ z8 then (some (z6, v_isBounce)) else (Option.bind (jf_Mo_step v_isBounce v_isBlock z6) (fun q_3 => (jf_Mo_state_L46 v_isBlock z7 n) q_3.1 (z8 + 1) q_3.2))
def jf_Mo_state_b14 (v_thrown : Int32) (v_isBounce : Int32) (v_isBlock : Nat → Int32) (z1 : Int32) (z2 : Int32) (z3 : Int32) (z4 : Int32) (z5 : Int32) (s1 : Int32) (s2 : Int32) (s3 : Int32) (s4 : Int32) : Option (Int32 × Int32 × Int32) :=
  Option.bind (jf_Mo_asksShot v_thrown v_isBlock s1 s2 s3 s4) (fun q_1 => if q_1.1 = 0 then (some (0, q_1.2, v_isBounce)) else (jlet (jf_Mo_stateOf z1 z2 z3 z4) (fun y6_1 => Option.bind (jf_Mo_periodOf v_isBounce v_isBlock y6_1) (fun q_2 => if q_2.1 = 0 then none else jlet (z5 - z5 / q_2.1 * q_2.1) (fun y7_1 => Option.bind (jf_Mo_state_L46 v_isBlock y7_1 jF y6_1 0 q_2.2) (fun q_4 => some (q_4.1, q_1.2, q_4.2)))))))
def jf_Mo_state (v_thrown : Int32) (v_isBounce : Int32) (v_isBlock : Nat → Int32) (x1 : Int32) (x2 : Int32) (x3 : Int32) (x4 : Int32) (x5 : Int32) : Option (Int32 × Int32 × Int32) :=
  if x5 < 0 then (jf_Mo_state_b14 v_thrown v_isBounce v_isBlock x1 x2 x3 x4 x5 x1 x2 x3 0) else (jf_Mo_state_b14 v_thrown v_isBounce v_isBlock x1 x2 x3 x4 x5 x1 x2 x3 1)
def jf_Mo_floors_b25 (self : Int32 → Int32 → Option Int32) (v_isBlock : Nat → Int32) (z2 : Int32) (s0 : Int32) (s1 : Int32) : Option Int32 :=
  jlet (s0 + s1) (fun y1_1 => self y1_1 (z2 + 1))
def jf_Mo_floors_L4 (v_isBlock : Nat → Int32) : Nat → Int32 → Int32 → Option Int32
  | 0, _, _ => none
  | n + 1, z1, z2 =>
    if 64 ≤ z2 then (some z1) else (if jin z2 64 = true then (if v_isBlock z2.toNatClampNeg = 0 then (jf_Mo_floors_b25 (jf_Mo_floors_L4 v_isBlock n) v_isBlock z2 z1 1) else (jf_Mo_floors_b25 (jf_Mo_floors_L4 v_isBlock n) v_isBlock z2 z1 0)) else none)
def jf_Mo_floors (v_isBlock : Nat → Int32) : Option Int32 :=
  Option.bind (jf_Mo_floors_L4 v_isBlock jF 0 0) (fun q_1 => some q_1)
def jf_Mo_lamp_b27 (v_thrown : Int32) (v_lamps : Int32) (v_lampX : Nat → Int32) (v_lampY : Nat → Int32) (z1 : Int32) (z2 : Int32) (s1 : Int32) : Option (Int32 × Int32 × Int32 × (Nat → Int32) × (Nat → Int32)) :=
  if s1 ≤ 0 then (if jin v_lamps 6 = true then (if jin v_lamps 6 = true then (some ((v_lamps + 1) - 1, s1, v_lamps + 1, upd v_lampX v_lamps.toNatClampNeg z1, upd v_lampY v_lamps.toNatClampNeg z2)) else none) else none) else (some (0, s1, v_lamps, v_lampX, v_lampY))
def jf_Mo_lamp (v_thrown : Int32) (v_lamps : Int32) (v_lampX : Nat → Int32) (v_lampY : Nat → Int32) (x1 : Int32) (x2 : Int32) : Option (Int32 × Int32 × Int32 × (Nat → Int32) × (Nat → Int32)) :=
  if (jf_Mo_isCell x1 x2) = 0 then (jf_Mo_lamp_b27 v_thrown v_lamps v_lampX v_lampY x1 x2 1) else (if v_lamps = 6 then (jf_Mo_lamp_b27 v_thrown v_lamps v_lampX v_lampY x1 x2 2) else (jf_Mo_lamp_b27 v_thrown v_lamps v_lampX v_lampY x1 x2 0))
def jf_Mo_least (x0 : Int32) (x1 : Int32) : Int32 :=
  if x1 ≤ x0 then x1 else x0
def jf_Mo_most (x0 : Int32) (x1 : Int32) : Int32 :=
  if x0 ≤ x1 then x1 else x0
def jf_Mo_sideOf (x0 : Int32) (x1 : Int32) (x2 : Int32) (x3 : Int32) (x4 : Int32) (x5 : Int32) : Int32 :=
  (x2 * (((2 * x5) - (2 * x1)) - 1)) - (x3 * (((2 * x4) - (2 * x0)) - 1))
def jf_Mo_meets (x0 : Int32) (x1 : Int32) (x2 : Int32) (x3 : Int32) (x4 : Int32) (x5 : Int32) : Int32 :=
  if x4 < (jf_Mo_least x0 x2) then 0 else (if (jf_Mo_most x0 x2) < x4 then 0 else (if x5 < (jf_Mo_least x1 x3) then 0 else (if x5 ≤ (jf_Mo_most x1 x3) then (jlet (x2 - x0) (fun y6_1 => jlet (x3 - x1) (fun y7_1 => jlet (jf_Mo_sideOf x0 x1 y6_1 y7_1 x4 x5) (fun y8_1 => jlet (jf_Mo_sideOf x0 x1 y6_1 y7_1 (x4 + 1) x5) (fun y9_1 => jlet (jf_Mo_sideOf x0 x1 y6_1 y7_1 x4 (x5 + 1)) (fun y10_1 => jlet (jf_Mo_sideOf x0 x1 y6_1 y7_1 (x4 + 1) (x5 + 1)) (fun y11_1 => if 0 < (jf_Mo_least (jf_Mo_least y8_1 y9_1) (jf_Mo_least y10_1 y11_1)) then 0 else (if (jf_Mo_most (jf_Mo_most y8_1 y9_1) (jf_Mo_most y10_1 y11_1)) < 0 then 0 else 1)))))))) else 0)))
def jf_Mo_areInSight_b77 (self : Int32 → Int32 → Option Int32) (v_isBlock : Nat → Int32) (z1 : Int32) (z2 : Int32) (z3 : Int32) (z4 : Int32) (z6 : Int32) (s0 : Int32) : Option Int32 :=
  self s0 (z6 + 1)
def jf_Mo_areInSight_b72 (self : Int32 → Int32 → Option Int32) (v_isBlock : Nat → Int32) (z1 : Int32) (z2 : Int32) (z3 : Int32) (z4 : Int32) (z6 : Int32) : Option Int32 :=
  jf_Mo_areInSight_b77 self v_isBlock z1 z2 z3 z4 z6 1
def jf_Mo_areInSight_L29 (v_isBlock : Nat → Int32) (z1 : Int32) (z2 : Int32) (z3 : Int32) (z4 : Int32) : Nat → Int32 → Int32 → Option Int32
  | 0, _, _ => none
  | n + 1, z5, z6 =>
    if 64 ≤ z6 then (some z5) else (if z5 = 0 then (some z5) else (if jin z6 64 = true then (if v_isBlock z6.toNatClampNeg = 0 then (jf_Mo_areInSight_b72 (jf_Mo_areInSight_L29 v_isBlock z1 z2 z3 z4 n) v_isBlock z1 z2 z3 z4 z6) else (if (jf_Mo_meets z1 z2 z3 z4 (z6 - z6 / 8 * 8) (z6 / 8)) = 0 then (jf_Mo_areInSight_b72 (jf_Mo_areInSight_L29 v_isBlock z1 z2 z3 z4 n) v_isBlock z1 z2 z3 z4 z6) else (jf_Mo_areInSight_b77 (jf_Mo_areInSight_L29 v_isBlock z1 z2 z3 z4 n) v_isBlock z1 z2 z3 z4 z6 0))) else none))
def jf_Mo_areInSight_b24 (v_isBlock : Nat → Int32) (z1 : Int32) (z2 : Int32) (z3 : Int32) (z4 : Int32) (s0 : Int32) : Option Int32 :=
  Option.bind (jf_Mo_areInSight_L29 v_isBlock z1 z2 z3 z4 jF s0 0) (fun q_2 => some (q_2 &&& 1))
def jf_Mo_areInSight_b23 (v_isBlock : Nat → Int32) (z1 : Int32) (z2 : Int32) (z3 : Int32) (z4 : Int32) : Option Int32 :=
  jf_Mo_areInSight_b24 v_isBlock z1 z2 z3 z4 0
def jf_Mo_areInSight (v_isBlock : Nat → Int32) (x1 : Int32) (x2 : Int32) (x3 : Int32) (x4 : Int32) : Option Int32 :=
  Option.bind (jf_Mo_isFloor v_isBlock x1 x2) (fun q_1 => if q_1 = 0 then (jf_Mo_areInSight_b23 v_isBlock x1 x2 x3 x4) else (Option.bind (jf_Mo_isFloor v_isBlock x3 x4) (fun q_3 => if q_3 = 0 then (jf_Mo_areInSight_b23 v_isBlock x1 x2 x3 x4) else (jf_Mo_areInSight_b24 v_isBlock x1 x2 x3 x4 1))))
def jf_Mo_sees_b23 (v_thrown : Int32) (v_isBlock : Nat → Int32) (z1 : Int32) (z2 : Int32) (z3 : Int32) (z4 : Int32) (s1 : Int32) : Option (Int32 × Int32) :=
  if s1 = 0 then (Option.bind (jf_Mo_areInSight v_isBlock z1 z2 z3 z4) (fun q_1 => if q_1 = 0 then (some (0, s1)) else (some (1, s1)))) else (some (0, s1))
def jf_Mo_sees_b22 (v_thrown : Int32) (v_isBlock : Nat → Int32) (z1 : Int32) (z2 : Int32) (z3 : Int32) (z4 : Int32) : Option (Int32 × Int32) :=
  jf_Mo_sees_b23 v_thrown v_isBlock z1 z2 z3 z4 1
def jf_Mo_sees (v_thrown : Int32) (v_isBlock : Nat → Int32) (x1 : Int32) (x2 : Int32) (x3 : Int32) (x4 : Int32) : Option (Int32 × Int32) :=
  if (jf_Mo_isCell x1 x2) = 0 then (jf_Mo_sees_b22 v_thrown v_isBlock x1 x2 x3 x4) else (if (jf_Mo_isCell x3 x4) = 0 then (jf_Mo_sees_b22 v_thrown v_isBlock x1 x2 x3 x4) else (jf_Mo_sees_b23 v_thrown v_isBlock x1 x2 x3 x4 0))
def jf_Mo_seesAnew (v_thrown : Int32) (v_isBlock : Nat → Int32) (x1 : Int32) (x2 : Int32) (x3 : Int32) (x4 : Int32) : Option (Int32 × Int32) :=
  Option.bind (jf_Mo_sees v_thrown v_isBlock x1 x2 x3 x4) (fun q_1 => some (q_1.1 &&& 1, q_1.2))
def jf_Mo_lit_b67 (self : Int32 → Int32 → Option Int32) (v_lamps : Int32) (v_isBlock : Nat → Int32) (v_lampX : Nat → Int32) (v_lampY : Nat → Int32) (z1 : Int32) (z2 : Int32) (z4 : Int32) (s0 : Int32) : Option Int32 :=
  self s0 (z4 + 1)
def jf_Mo_lit_b62 (self : Int32 → Int32 → Option Int32) (v_lamps : Int32) (v_isBlock : Nat → Int32) (v_lampX : Nat → Int32) (v_lampY : Nat → Int32) (z1 : Int32) (z2 : Int32) (z4 : Int32) : Option Int32 :=
  jf_Mo_lit_b67 self v_lamps v_isBlock v_lampX v_lampY z1 z2 z4 1
def jf_Mo_lit_L20 (v_lamps : Int32) (v_isBlock : Nat → Int32) (v_lampX : Nat → Int32) (v_lampY : Nat → Int32) (z1 : Int32) (z2 : Int32) : Nat → Int32 → Int32 → Option Int32
  | 0, _, _ => none
  | n + 1, z3, z4 =>
    if v_lamps ≤ z4 then (some z3) else (if z3 = 0 then (if jin z4 6 = true then (if jin z4 6 = true then (Option.bind (jf_Mo_areInSight v_isBlock (z2 - z2 / 8 * 8) (z2 / 8) (v_lampX z4.toNatClampNeg) (v_lampY z4.toNatClampNeg)) (fun q_1 => if q_1 = 0 then (jf_Mo_lit_b67 (jf_Mo_lit_L20 v_lamps v_isBlock v_lampX v_lampY z1 z2 n) v_lamps v_isBlock v_lampX v_lampY z1 z2 z4 0) else (jf_Mo_lit_b62 (jf_Mo_lit_L20 v_lamps v_isBlock v_lampX v_lampY z1 z2 n) v_lamps v_isBlock v_lampX v_lampY z1 z2 z4))) else none) else none) else (jf_Mo_lit_b62 (jf_Mo_lit_L20 v_lamps v_isBlock v_lampX v_lampY z1 z2 n) v_lamps v_isBlock v_lampX v_lampY z1 z2 z4))
def jf_Mo_lit_b84 (self : Int32 → Int32 → Option Int32) (v_lamps : Int32) (v_isBlock : Nat → Int32) (v_lampX : Nat → Int32) (v_lampY : Nat → Int32) (z2 : Int32) (s0 : Int32) (s1 : Int32) : Option Int32 :=
  jlet (s0 + s1) (fun y1_1 => self y1_1 (z2 + 1))
def jf_Mo_lit_L9 (v_lamps : Int32) (v_isBlock : Nat → Int32) (v_lampX : Nat → Int32) (v_lampY : Nat → Int32) : Nat → Int32 → Int32 → Option Int32
  | 0, _, _ => none
  | n + 1, z1, z2 =>
    if 64 ≤ z2 then (some z1) else (Option.bind (jf_Mo_lit_L20 v_lamps v_isBlock v_lampX v_lampY z1 z2 jF 0 0) (fun q_2 => if q_2 = 0 then (jf_Mo_lit_b84 (jf_Mo_lit_L9 v_lamps v_isBlock v_lampX v_lampY n) v_lamps v_isBlock v_lampX v_lampY z2 z1 0) else (jf_Mo_lit_b84 (jf_Mo_lit_L9 v_lamps v_isBlock v_lampX v_lampY n) v_lamps v_isBlock v_lampX v_lampY z2 z1 1)))
def jf_Mo_lit (v_thrown : Int32) (v_lamps : Int32) (v_isBlock : Nat → Int32) (v_lampX : Nat → Int32) (v_lampY : Nat → Int32) : Option (Int32 × Int32) :=
  Option.bind (jf_Mo_lit_L9 v_lamps v_isBlock v_lampX v_lampY jF 0 0) (fun q_3 => some (q_3, 0))
def jf_Mo_share (v_thrown : Int32) (v_lamps : Int32) (v_isBlock : Nat → Int32) (v_lampX : Nat → Int32) (v_lampY : Nat → Int32) : Option (UInt32 × Int32) :=
  Option.bind (jf_Mo_lit v_thrown v_lamps v_isBlock v_lampX v_lampY) (fun q_1 => Option.bind (jf_Mo_floors v_isBlock) (fun q_2 => if q_2 = 0 then (some (FP.fconst0, q_1.2)) else (Option.bind (jf_Mo_floors v_isBlock) (fun q_3 => if jnn (FP.fdiv (FP.i2f q_1.1) (FP.i2f q_3)) = true then (some (FP.fdiv (FP.i2f q_1.1) (FP.i2f q_3), q_1.2)) else none))))
def jf_Mo_surface_L39 (z1 : Int32) (z2 : Int32) : Nat → Int32 → (Nat → Int32) → (Nat → Int32) → Option ((Nat → Int32) × (Nat → Int32))
  | 0, _, _, _ => none
  | n + 1, z3, v_right, v_up =>
    if z1 ≤ z3 then (some (v_right, v_up)) else (if jin z3 5 = true then (if jin z3 5 = true then ((jf_Mo_surface_L39 z1 z2 n) (z3 + 1) (upd v_right z3.toNatClampNeg z3) (upd v_up z3.toNatClampNeg z3)) else none) else none)
def jf_Mo_surface_b15 (v_thrown : Int32) (v_squares : Int32) (v_right : Nat → Int32) (v_up : Nat → Int32) (z1 : Int32) (s1 : Int32) : Option (Int32 × Int32 × Int32 × (Nat → Int32) × (Nat → Int32)) :=
  if s1 ≤ 0 then (Option.bind (jf_Mo_surface_L39 z1 v_squares jF 0 v_right v_up) (fun q_1 => some (v_squares, s1, z1, q_1.1, q_1.2))) else (some (0, s1, v_squares, v_right, v_up))
def jf_Mo_surface (v_thrown : Int32) (v_squares : Int32) (v_right : Nat → Int32) (v_up : Nat → Int32) (x1 : Int32) : Option (Int32 × Int32 × Int32 × (Nat → Int32) × (Nat → Int32)) :=
  if (jf_Mo_in x1 1 5) = 0 then (jf_Mo_surface_b15 v_thrown v_squares v_right v_up x1 1) else (jf_Mo_surface_b15 v_thrown v_squares v_right v_up x1 0)
def jf_Mo_isSquare (v_squares : Int32) (x1 : Int32) : Int32 :=
  (jf_Mo_in x1 0 (v_squares - 1)) &&& 1
def jf_Mo_glue_b22 (v_thrown : Int32) (v_right : Nat → Int32) (v_up : Nat → Int32) (z1 : Int32) (z2 : Int32) (z3 : Int32) (s1 : Int32) : Option (Int32 × Int32 × (Nat → Int32) × (Nat → Int32)) :=
  if s1 ≤ 0 then (if z3 = 0 then (if jin z1 5 = true then (jlet (v_right z1.toNatClampNeg) (fun y4_1 => if jin z2 5 = true then (if jin z1 5 = true then (if jin z2 5 = true then (if jin z1 5 = true then (some ((upd (upd v_right z1.toNatClampNeg (v_right z2.toNatClampNeg)) z2.toNatClampNeg y4_1) z1.toNatClampNeg, s1, upd (upd v_right z1.toNatClampNeg (v_right z2.toNatClampNeg)) z2.toNatClampNeg y4_1, v_up)) else none) else none) else none) else none)) else none) else (if jin z1 5 = true then (jlet (v_up z1.toNatClampNeg) (fun y4_2 => if jin z2 5 = true then (if jin z1 5 = true then (if jin z2 5 = true then (if jin z1 5 = true then (some ((upd (upd v_up z1.toNatClampNeg (v_up z2.toNatClampNeg)) z2.toNatClampNeg y4_2) z1.toNatClampNeg, s1, v_right, upd (upd v_up z1.toNatClampNeg (v_up z2.toNatClampNeg)) z2.toNatClampNeg y4_2)) else none) else none) else none) else none)) else none)) else (some (0, s1, v_right, v_up))
def jf_Mo_glue_b21 (v_thrown : Int32) (v_right : Nat → Int32) (v_up : Nat → Int32) (z1 : Int32) (z2 : Int32) (z3 : Int32) : Option (Int32 × Int32 × (Nat → Int32) × (Nat → Int32)) :=
  jf_Mo_glue_b22 v_thrown v_right v_up z1 z2 z3 1
def jf_Mo_glue (v_thrown : Int32) (v_squares : Int32) (v_right : Nat → Int32) (v_up : Nat → Int32) (x1 : Int32) (x2 : Int32) (x3 : Int32) : Option (Int32 × Int32 × (Nat → Int32) × (Nat → Int32)) :=
  if (jf_Mo_isSquare v_squares x1) = 0 then (jf_Mo_glue_b21 v_thrown v_right v_up x1 x2 x3) else (if (jf_Mo_isSquare v_squares x2) = 0 then (jf_Mo_glue_b21 v_thrown v_right v_up x1 x2 x3) else (jf_Mo_glue_b22 v_thrown v_right v_up x1 x2 x3 0))
def jf_Mo_leftOf_b27 (self : Int32 → Int32 → Option Int32) (v_squares : Int32) (v_right : Nat → Int32) (z1 : Int32) (z3 : Int32) (s0 : Int32) : Option Int32 :=
  self s0 (z3 + 1)
def jf_Mo_leftOf_L4 (v_squares : Int32) (v_right : Nat → Int32) (z1 : Int32) : Nat → Int32 → Int32 → Option Int32
  | 0, _, _ => none
  | n + 1, z2, z3 =>
    if v_squares ≤ z3 then (some z2) else (if jin z3 5 = true then (if v_right z3.toNatClampNeg = z1 then (jf_Mo_leftOf_b27 (jf_Mo_leftOf_L4 v_squares v_right z1 n) v_squares v_right z1 z3 z3) else (jf_Mo_leftOf_b27 (jf_Mo_leftOf_L4 v_squares v_right z1 n) v_squares v_right z1 z3 z2)) else none)
def jf_Mo_leftOf (v_squares : Int32) (v_right : Nat → Int32) (x1 : Int32) : Option Int32 :=
  Option.bind (jf_Mo_leftOf_L4 v_squares v_right x1 jF 0 0) (fun q_1 => some q_1)
def jf_Mo_downOf_b27 (self : Int32 → Int32 → Option Int32) (v_squares : Int32) (v_up : Nat → Int32) (z1 : Int32) (z3 : Int32) (s0 : Int32) : Option Int32 :=
  self s0 (z3 + 1)
def jf_Mo_downOf_L4 (v_squares : Int32) (v_up : Nat → Int32) (z1 : Int32) : Nat → Int32 → Int32 → Option Int32
  | 0, _, _ => none
  | n + 1, z2, z3 =>
    if v_squares ≤ z3 then (some z2) else (if jin z3 5 = true then (if v_up z3.toNatClampNeg = z1 then (jf_Mo_downOf_b27 (jf_Mo_downOf_L4 v_squares v_up z1 n) v_squares v_up z1 z3 z3) else (jf_Mo_downOf_b27 (jf_Mo_downOf_L4 v_squares v_up z1 n) v_squares v_up z1 z3 z2)) else none)
def jf_Mo_downOf (v_squares : Int32) (v_up : Nat → Int32) (x1 : Int32) : Option Int32 :=
  Option.bind (jf_Mo_downOf_L4 v_squares v_up x1 jF 0 0) (fun q_1 => some q_1)
def jf_Mo_round (v_squares : Int32) (v_right : Nat → Int32) (v_up : Nat → Int32) (x1 : Int32) : Option Int32 :=
  if jin x1 5 = true then (if jin (v_right x1.toNatClampNeg) 5 = true then (Option.bind (jf_Mo_leftOf v_squares v_right (v_up (v_right x1.toNatClampNeg).toNatClampNeg)) (fun q_1 => Option.bind (jf_Mo_downOf v_squares v_up q_1) (fun q_2 => some q_2))) else none) else none
def jf_Mo_angle_L8 (v_squares : Int32) (v_right : Nat → Int32) (v_up : Nat → Int32) (z1 : Int32) : Nat → Int32 → Int32 → Option Int32
  | 0, _, _ => none
  | n + 1, z2, z3 =>
    if z3 = z1 then (some z2) else (Option.bind (jf_Mo_round v_squares v_right v_up z3) (fun q_2 => (jf_Mo_angle_L8 v_squares v_right v_up z1 n) (z2 + 1) q_2))
def jf_Mo_angle (v_squares : Int32) (v_right : Nat → Int32) (v_up : Nat → Int32) (x1 : Int32) : Option Int32 :=
  Option.bind (jf_Mo_round v_squares v_right v_up x1) (fun q_1 => Option.bind (jf_Mo_angle_L8 v_squares v_right v_up x1 jF 1 q_1) (fun q_3 => some q_3))
def jf_Mo_rowSize_L9 (v_right : Nat → Int32) (z1 : Int32) : Nat → Int32 → Int32 → Option Int32
  | 0, _, _ => none
  | n + 1, z2, z3 =>
    if z3 = z1 then (some z2) else (if jin z3 5 = true then (jlet (v_right z3.toNatClampNeg) (fun y3_2 => (jf_Mo_rowSize_L9 v_right z1 n) (z2 + 1) y3_2)) else none)
def jf_Mo_rowSize (v_right : Nat → Int32) (x1 : Int32) : Option Int32 :=
  if jin x1 5 = true then (jlet (v_right x1.toNatClampNeg) (fun y3_1 => Option.bind (jf_Mo_rowSize_L9 v_right x1 jF 1 y3_1) (fun q_1 => some q_1))) else none
def jf_Mo_parts_L2 (v_squares : Int32) : Nat → Int32 → (Nat → Int32) → Option (Nat → Int32)
  | 0, _, _ => none
  | n + 1, z1, v_part =>
    if v_squares ≤ z1 then (some v_part) else (if jin z1 5 = true then ((jf_Mo_parts_L2 v_squares n) (z1 + 1) (upd v_part z1.toNatClampNeg z1)) else none)
def jf_Mo_parts (v_squares : Int32) (v_part : Nat → Int32) : Option (Nat → Int32) :=
  Option.bind (jf_Mo_parts_L2 v_squares jF 0 v_part) (fun q_1 => some q_1)
def jf_Mo_joins_b56 (self : Int32 → (Nat → Int32) → Option (Nat → Int32)) (v_squares : Int32) (v_part : Nat → Int32) (z3 : Int32) (z4 : Int32) (z5 : Int32) (s1 : Int32) (s2 : Int32) : Option (Nat → Int32) :=
  if jin s1 5 = true then (self (z5 + 1) (upd v_part s1.toNatClampNeg s2)) else none
def jf_Mo_joins_L18 (v_squares : Int32) (z3 : Int32) (z4 : Int32) : Nat → Int32 → (Nat → Int32) → Option (Nat → Int32)
  | 0, _, _ => none
  | n + 1, z5, v_part =>
    if v_squares ≤ z5 then (some v_part) else (if jin z5 5 = true then (if v_part z5.toNatClampNeg = z3 then (jf_Mo_joins_b56 (jf_Mo_joins_L18 v_squares z3 z4 n) v_squares v_part z3 z4 z5 z5 z4) else (if jin z5 5 = true then (jf_Mo_joins_b56 (jf_Mo_joins_L18 v_squares z3 z4 n) v_squares v_part z3 z4 z5 z5 (v_part z5.toNatClampNeg)) else none)) else none)
def jf_Mo_joins (v_squares : Int32) (v_part : Nat → Int32) (x1 : Int32) (x2 : Int32) : Option (Nat → Int32) :=
  if jin x1 5 = true then (jlet (v_part x1.toNatClampNeg) (fun y3_1 => if jin x2 5 = true then (jlet (v_part x2.toNatClampNeg) (fun y4_1 => Option.bind (jf_Mo_joins_L18 v_squares y3_1 y4_1 jF 0 v_part) (fun q_1 => some q_1))) else none)) else none
def jf_Mo_findsPieces_L6 (v_squares : Int32) (v_right : Nat → Int32) (v_up : Nat → Int32) : Nat → Int32 → (Nat → Int32) → Option (Nat → Int32)
  | 0, _, _ => none
  | n + 1, z1, v_part =>
    if v_squares ≤ z1 then (some v_part) else (if jin z1 5 = true then (Option.bind (jf_Mo_joins v_squares v_part z1 (v_right z1.toNatClampNeg)) (fun q_2 => if jin z1 5 = true then (Option.bind (jf_Mo_joins v_squares q_2 z1 (v_up z1.toNatClampNeg)) (fun q_3 => (jf_Mo_findsPieces_L6 v_squares v_right v_up n) (z1 + 1) q_3)) else none)) else none)
def jf_Mo_findsPieces (v_squares : Int32) (v_right : Nat → Int32) (v_up : Nat → Int32) (v_part : Nat → Int32) : Option (Nat → Int32) :=
  Option.bind (jf_Mo_parts v_squares v_part) (fun q_1 => Option.bind (jf_Mo_findsPieces_L6 v_squares v_right v_up jF 0 q_1) (fun q_4 => some q_4))
def jf_Mo_findsRows_L6 (v_squares : Int32) (v_right : Nat → Int32) : Nat → Int32 → (Nat → Int32) → Option (Nat → Int32)
  | 0, _, _ => none
  | n + 1, z1, v_part =>
    if v_squares ≤ z1 then (some v_part) else (if jin z1 5 = true then (Option.bind (jf_Mo_joins v_squares v_part z1 (v_right z1.toNatClampNeg)) (fun q_2 => (jf_Mo_findsRows_L6 v_squares v_right n) (z1 + 1) q_2)) else none)
def jf_Mo_findsRows (v_squares : Int32) (v_right : Nat → Int32) (v_part : Nat → Int32) : Option (Nat → Int32) :=
  Option.bind (jf_Mo_parts v_squares v_part) (fun q_1 => Option.bind (jf_Mo_findsRows_L6 v_squares v_right jF 0 q_1) (fun q_3 => some q_3))
def jf_Mo_isFlat_b45 (self : Int32 → Int32 → Option Int32) (v_squares : Int32) (v_right : Nat → Int32) (v_up : Nat → Int32) (z1 : Int32) (z3 : Int32) (s0 : Int32) : Option Int32 :=
  if jin z3 5 = true then (jlet (v_right z3.toNatClampNeg) (fun y3_2 => self s0 y3_2)) else none
def jf_Mo_isFlat_b44 (self : Int32 → Int32 → Option Int32) (v_squares : Int32) (v_right : Nat → Int32) (v_up : Nat → Int32) (z1 : Int32) (z3 : Int32) : Option Int32 :=
  jf_Mo_isFlat_b45 self v_squares v_right v_up z1 z3 0
def jf_Mo_isFlat_L22 (v_squares : Int32) (v_right : Nat → Int32) (v_up : Nat → Int32) (z1 : Int32) : Nat → Int32 → Int32 → Option Int32
  | 0, _, _ => none
  | n + 1, z2, z3 =>
    if z3 = z1 then (some z2) else (if z2 = 0 then (jf_Mo_isFlat_b44 (jf_Mo_isFlat_L22 v_squares v_right v_up z1 n) v_squares v_right v_up z1 z3) else (Option.bind (jf_Mo_angle v_squares v_right v_up z3) (fun q_2 => if q_2 = 1 then (jf_Mo_isFlat_b45 (jf_Mo_isFlat_L22 v_squares v_right v_up z1 n) v_squares v_right v_up z1 z3 1) else (jf_Mo_isFlat_b44 (jf_Mo_isFlat_L22 v_squares v_right v_up z1 n) v_squares v_right v_up z1 z3))))
def jf_Mo_isFlat_b14 (v_squares : Int32) (v_right : Nat → Int32) (v_up : Nat → Int32) (z1 : Int32) (s0 : Int32) : Option Int32 :=
  if jin z1 5 = true then (jlet (v_right z1.toNatClampNeg) (fun y3_1 => Option.bind (jf_Mo_isFlat_L22 v_squares v_right v_up z1 jF s0 y3_1) (fun q_3 => some (q_3 &&& 1)))) else none
def jf_Mo_isFlat (v_squares : Int32) (v_right : Nat → Int32) (v_up : Nat → Int32) (x1 : Int32) : Option Int32 :=
  Option.bind (jf_Mo_angle v_squares v_right v_up x1) (fun q_1 => if q_1 = 1 then (jf_Mo_isFlat_b14 v_squares v_right v_up x1 1) else (jf_Mo_isFlat_b14 v_squares v_right v_up x1 0))
def jf_Mo_findsCylinders_b33 (self : Int32 → (Nat → Int32) → Option (Nat → Int32)) (v_squares : Int32) (v_right : Nat → Int32) (v_up : Nat → Int32) (v_part : Nat → Int32) (z1 : Int32) : Option (Nat → Int32) :=
  self (z1 + 1) v_part
def jf_Mo_findsCylinders_L6 (v_squares : Int32) (v_right : Nat → Int32) (v_up : Nat → Int32) : Nat → Int32 → (Nat → Int32) → Option (Nat → Int32)
  | 0, _, _ => none
  | n + 1, z1, v_part =>
    if v_squares ≤ z1 then (some v_part) else (Option.bind (jf_Mo_isFlat v_squares v_right v_up z1) (fun q_2 => if q_2 = 0 then (jf_Mo_findsCylinders_b33 (jf_Mo_findsCylinders_L6 v_squares v_right v_up n) v_squares v_right v_up v_part z1) else (if jin z1 5 = true then (Option.bind (jf_Mo_joins v_squares v_part z1 (v_up z1.toNatClampNeg)) (fun q_3 => jf_Mo_findsCylinders_b33 (jf_Mo_findsCylinders_L6 v_squares v_right v_up n) v_squares v_right v_up q_3 z1)) else none)))
def jf_Mo_findsCylinders (v_squares : Int32) (v_right : Nat → Int32) (v_up : Nat → Int32) (v_part : Nat → Int32) : Option (Nat → Int32) :=
  Option.bind (jf_Mo_findsRows v_squares v_right v_part) (fun q_1 => Option.bind (jf_Mo_findsCylinders_L6 v_squares v_right v_up jF 0 q_1) (fun q_4 => some q_4))
def jf_Mo_manyParts_b48 (self : Int32 → Int32 → Option Int32) (v_part : Nat → Int32) (z1 : Int32) (z2 : Int32) (z4 : Int32) (s0 : Int32) : Option Int32 :=
  self s0 (z4 + 1)
def jf_Mo_manyParts_b47 (self : Int32 → Int32 → Option Int32) (v_part : Nat → Int32) (z1 : Int32) (z2 : Int32) (z4 : Int32) : Option Int32 :=
  jf_Mo_manyParts_b48 self v_part z1 z2 z4 0
def jf_Mo_manyParts_L17 (v_part : Nat → Int32) (z1 : Int32) (z2 : Int32) : Nat → Int32 → Int32 → Option Int32
  | 0, _, _ => none
  | n + 1, z3, z4 =>
    if z2 ≤ z4 then (some z3) else (if z3 = 0 then (jf_Mo_manyParts_b47 (jf_Mo_manyParts_L17 v_part z1 z2 n) v_part z1 z2 z4) else (if jin z4 5 = true then (if jin z2 5 = true then (if v_part z4.toNatClampNeg = v_part z2.toNatClampNeg then (jf_Mo_manyParts_b47 (jf_Mo_manyParts_L17 v_part z1 z2 n) v_part z1 z2 z4) else (jf_Mo_manyParts_b48 (jf_Mo_manyParts_L17 v_part z1 z2 n) v_part z1 z2 z4 1)) else none) else none))
def jf_Mo_manyParts_b65 (self : Int32 → Int32 → Option Int32) (v_squares : Int32) (v_part : Nat → Int32) (z2 : Int32) (s0 : Int32) (s1 : Int32) : Option Int32 :=
  jlet (s0 + s1) (fun y1_1 => self y1_1 (z2 + 1))
def jf_Mo_manyParts_L4 (v_squares : Int32) (v_part : Nat → Int32) : Nat → Int32 → Int32 → Option Int32
  | 0, _, _ => none
  | n + 1, z1, z2 =>
    if v_squares ≤ z2 then (some z1) else (Option.bind (jf_Mo_manyParts_L17 v_part z1 z2 jF 1 0) (fun q_1 => if q_1 = 0 then (jf_Mo_manyParts_b65 (jf_Mo_manyParts_L4 v_squares v_part n) v_squares v_part z2 z1 0) else (jf_Mo_manyParts_b65 (jf_Mo_manyParts_L4 v_squares v_part n) v_squares v_part z2 z1 1)))
def jf_Mo_manyParts (v_squares : Int32) (v_part : Nat → Int32) : Option Int32 :=
  Option.bind (jf_Mo_manyParts_L4 v_squares v_part jF 0 0) (fun q_2 => some q_2)
def jf_Mo_sizeOf_b33 (self : Int32 → Int32 → Option Int32) (v_squares : Int32) (v_part : Nat → Int32) (z1 : Int32) (z3 : Int32) (s0 : Int32) (s1 : Int32) : Option Int32 :=
  jlet (s0 + s1) (fun y2_1 => self y2_1 (z3 + 1))
def jf_Mo_sizeOf_L4 (v_squares : Int32) (v_part : Nat → Int32) (z1 : Int32) : Nat → Int32 → Int32 → Option Int32
  | 0, _, _ => none
  | n + 1, z2, z3 =>
    if v_squares ≤ z3 then (some z2) else (if jin z3 5 = true then (if jin z1 5 = true then (if v_part z3.toNatClampNeg = v_part z1.toNatClampNeg then (jf_Mo_sizeOf_b33 (jf_Mo_sizeOf_L4 v_squares v_part z1 n) v_squares v_part z1 z3 z2 1) else (jf_Mo_sizeOf_b33 (jf_Mo_sizeOf_L4 v_squares v_part z1 n) v_squares v_part z1 z3 z2 0)) else none) else none)
def jf_Mo_sizeOf (v_squares : Int32) (v_part : Nat → Int32) (x1 : Int32) : Option Int32 :=
  Option.bind (jf_Mo_sizeOf_L4 v_squares v_part x1 jF 0 0) (fun q_1 => some q_1)
def jf_Mo_cones_L6 (v_squares : Int32) (v_right : Nat → Int32) (v_up : Nat → Int32) : Nat → Int32 → (Nat → Int32) → Option (Nat → Int32)
  | 0, _, _ => none
  | n + 1, z1, v_part =>
    if v_squares ≤ z1 then (some v_part) else (Option.bind (jf_Mo_round v_squares v_right v_up z1) (fun q_2 => Option.bind (jf_Mo_joins v_squares v_part z1 q_2) (fun q_3 => (jf_Mo_cones_L6 v_squares v_right v_up n) (z1 + 1) q_3)))
def jf_Mo_cones (v_squares : Int32) (v_right : Nat → Int32) (v_up : Nat → Int32) (v_part : Nat → Int32) : Option (Int32 × (Nat → Int32)) :=
  Option.bind (jf_Mo_parts v_squares v_part) (fun q_1 => Option.bind (jf_Mo_cones_L6 v_squares v_right v_up jF 0 q_1) (fun q_4 => Option.bind (jf_Mo_manyParts v_squares q_4) (fun q_5 => some (q_5, q_4))))
def jf_Mo_pieces (v_squares : Int32) (v_right : Nat → Int32) (v_up : Nat → Int32) (v_part : Nat → Int32) : Option (Int32 × (Nat → Int32)) :=
  Option.bind (jf_Mo_findsPieces v_squares v_right v_up v_part) (fun q_1 => Option.bind (jf_Mo_manyParts v_squares q_1) (fun q_2 => some (q_2, q_1)))
def jf_Mo_shears_L2 (v_squares : Int32) (v_right : Nat → Int32) (v_up : Nat → Int32) : Nat → Int32 → (Nat → Int32) → Option (Nat → Int32)
  | 0, _, _ => none
  | n + 1, z1, v_part =>
    if v_squares ≤ z1 then (some v_part) else (if jin z1 5 = true then (if jin (v_right z1.toNatClampNeg) 5 = true then (if jin z1 5 = true then ((jf_Mo_shears_L2 v_squares v_right v_up n) (z1 + 1) (upd v_part z1.toNatClampNeg (v_up (v_right z1.toNatClampNeg).toNatClampNeg))) else none) else none) else none)
def jf_Mo_shears_L35 (v_squares : Int32) (v_part : Nat → Int32) : Nat → Int32 → (Nat → Int32) → Option (Nat → Int32)
  | 0, _, _ => none
  | n + 1, z1, v_up =>
    if v_squares ≤ z1 then (some v_up) else (if jin z1 5 = true then (if jin z1 5 = true then ((jf_Mo_shears_L35 v_squares v_part n) (z1 + 1) (upd v_up z1.toNatClampNeg (v_part z1.toNatClampNeg))) else none) else none)
def jf_Mo_shears (v_squares : Int32) (v_right : Nat → Int32) (v_up : Nat → Int32) (v_part : Nat → Int32) : Option ((Nat → Int32) × (Nat → Int32)) :=
  Option.bind (jf_Mo_shears_L2 v_squares v_right v_up jF 0 v_part) (fun q_1 => Option.bind (jf_Mo_shears_L35 v_squares q_1 jF 0 v_up) (fun q_2 => some (q_2, q_1)))
def jf_Mo_turns_L2 (v_squares : Int32) (v_right : Nat → Int32) : Nat → Int32 → (Nat → Int32) → Option (Nat → Int32)
  | 0, _, _ => none
  | n + 1, z1, v_part =>
    if v_squares ≤ z1 then (some v_part) else (Option.bind (jf_Mo_leftOf v_squares v_right z1) (fun q_1 => if jin z1 5 = true then ((jf_Mo_turns_L2 v_squares v_right n) (z1 + 1) (upd v_part z1.toNatClampNeg q_1)) else none))
def jf_Mo_turns_L29 (v_squares : Int32) (v_up : Nat → Int32) : Nat → Int32 → (Nat → Int32) → Option (Nat → Int32)
  | 0, _, _ => none
  | n + 1, z1, v_right =>
    if v_squares ≤ z1 then (some v_right) else (if jin z1 5 = true then (if jin z1 5 = true then ((jf_Mo_turns_L29 v_squares v_up n) (z1 + 1) (upd v_right z1.toNatClampNeg (v_up z1.toNatClampNeg))) else none) else none)
def jf_Mo_turns_L57 (v_squares : Int32) (v_part : Nat → Int32) : Nat → Int32 → (Nat → Int32) → Option (Nat → Int32)
  | 0, _, _ => none
  | n + 1, z1, v_up =>
    if v_squares ≤ z1 then (some v_up) else (if jin z1 5 = true then (if jin z1 5 = true then ((jf_Mo_turns_L57 v_squares v_part n) (z1 + 1) (upd v_up z1.toNatClampNeg (v_part z1.toNatClampNeg))) else none) else none)
def jf_Mo_turns (v_squares : Int32) (v_right : Nat → Int32) (v_up : Nat → Int32) (v_part : Nat → Int32) : Option ((Nat → Int32) × (Nat → Int32) × (Nat → Int32)) :=
  Option.bind (jf_Mo_turns_L2 v_squares v_right jF 0 v_part) (fun q_2 => Option.bind (jf_Mo_turns_L29 v_squares v_up jF 0 v_right) (fun q_3 => Option.bind (jf_Mo_turns_L57 v_squares q_2 jF 0 v_up) (fun q_4 => some (q_3, q_4, q_2))))
def jf_Mo_names_b72 (self : Int32 → Int32 → Option Int32) (v_name : Nat → Int32) (z2 : Int32) (z4 : Int32) (z5 : Int32) (s0 : Int32) : Option Int32 :=
  self s0 (z5 + 1)
def jf_Mo_names_b71 (self : Int32 → Int32 → Option Int32) (v_name : Nat → Int32) (z2 : Int32) (z4 : Int32) (z5 : Int32) : Option Int32 :=
  jf_Mo_names_b72 self v_name z2 z4 z5 0
def jf_Mo_names_L39 (v_name : Nat → Int32) (z2 : Int32) (z4 : Int32) : Nat → Int32 → Int32 → Option Int32
  | 0, _, _ => none
  | n + 1, z3, z5 =>
    if z4 ≤ z5 then (some z3) else (if z3 = 0 then (jf_Mo_names_b71 (jf_Mo_names_L39 v_name z2 z4 n) v_name z2 z4 z5) else (if jin z5 5 = true then (if jin z4 5 = true then (if v_name z5.toNatClampNeg = v_name z4.toNatClampNeg then (jf_Mo_names_b71 (jf_Mo_names_L39 v_name z2 z4 n) v_name z2 z4 z5) else (jf_Mo_names_b72 (jf_Mo_names_L39 v_name z2 z4 n) v_name z2 z4 z5 1)) else none) else none))
def jf_Mo_names_L7 (v_squares : Int32) : Nat → Int32 → Int32 → Int32 → (Nat → Int32) → Option (Int32 × (Nat → Int32))
  | 0, _, _, _, _ => none
  | n + 1, z2, z3, z4, v_name =>
    if v_squares ≤ z4 then (some (z3, v_name)) else (if v_squares = 0 then none else if jin z4 5 = true then (if v_squares = 0 then none else jlet (z2 / v_squares) (fun y2_1 => Option.bind (jf_Mo_names_L39 (upd v_name z4.toNatClampNeg (z2 - z2 / v_squares * v_squares)) y2_1 z4 jF z3 0) (fun q_1 => (jf_Mo_names_L7 v_squares n) y2_1 q_1 (z4 + 1) (upd v_name z4.toNatClampNeg (z2 - z2 / v_squares * v_squares))))) else none)
def jf_Mo_names (v_squares : Int32) (v_name : Nat → Int32) (x1 : Int32) : Option (Int32 × (Nat → Int32)) :=
  Option.bind (jf_Mo_names_L7 v_squares jF x1 1 0 v_name) (fun q_2 => some (q_2.1 &&& 1, q_2.2))
def jf_Mo_number_L14 (v_name : Nat → Int32) (z1 : Int32) (z2 : Int32) : Nat → Int32 → Option Int32
  | 0, _ => none
  | n + 1, z3 =>
    if jin z3 5 = true then (if v_name z3.toNatClampNeg = z2 then (some z3) else ((jf_Mo_number_L14 v_name z1 z2 n) (z3 + 1))) else none
def jf_Mo_number_L4 (v_squares : Int32) (v_right : Nat → Int32) (v_up : Nat → Int32) (v_name : Nat → Int32) : Nat → Int32 → Int32 → Option Int32
  | 0, _, _ => none
  | n + 1, z1, z2 =>
    if v_squares ≤ z2 then (some z1) else (Option.bind (jf_Mo_number_L14 v_name z1 z2 jF 0) (fun q_1 => if jin q_1 5 = true then (if jin (v_right q_1.toNatClampNeg) 5 = true then (if jin q_1 5 = true then (if jin (v_up q_1.toNatClampNeg) 5 = true then (jlet (((25 * z1) + (5 * (v_name (v_right q_1.toNatClampNeg).toNatClampNeg))) + (v_name (v_up q_1.toNatClampNeg).toNatClampNeg)) (fun y1_1 => (jf_Mo_number_L4 v_squares v_right v_up v_name n) y1_1 (z2 + 1))) else none) else none) else none) else none))
def jf_Mo_number (v_squares : Int32) (v_right : Nat → Int32) (v_up : Nat → Int32) (v_name : Nat → Int32) : Option Int32 :=
  Option.bind (jf_Mo_number_L4 v_squares v_right v_up v_name jF 0 0) (fun q_2 => some q_2)
def jf_Mo_codeNow_L4 (v_squares : Int32) : Nat → Int32 → Int32 → Option Int32
  | 0, _, _ => none
  | n + 1, z1, z2 =>
    if v_squares ≤ z2 then (some z1) else (jlet (z1 * v_squares) (fun y1_1 => (jf_Mo_codeNow_L4 v_squares n) y1_1 (z2 + 1)))
def jf_Mo_codeNow_b55 (self : Int32 → Int32 → (Nat → Int32) → Option (Int32 × (Nat → Int32))) (v_squares : Int32) (v_right : Nat → Int32) (v_up : Nat → Int32) (v_name : Nat → Int32) (z1 : Int32) (z3 : Int32) (s0 : Int32) : Option (Int32 × (Nat → Int32)) :=
  self s0 (z3 + 1) v_name
def jf_Mo_codeNow_L30 (v_squares : Int32) (v_right : Nat → Int32) (v_up : Nat → Int32) (z1 : Int32) : Nat → Int32 → Int32 → (Nat → Int32) → Option (Int32 × (Nat → Int32))
  | 0, _, _, _ => none
  | n + 1, z2, z3, v_name =>
    if z1 ≤ z3 then (some (z2, v_name)) else (Option.bind (jf_Mo_names v_squares v_name z3) (fun q_2 => if q_2.1 = 0 then (jf_Mo_codeNow_b55 (jf_Mo_codeNow_L30 v_squares v_right v_up z1 n) v_squares v_right v_up q_2.2 z1 z3 z2) else (Option.bind (jf_Mo_number v_squares v_right v_up q_2.2) (fun q_3 => jf_Mo_codeNow_b55 (jf_Mo_codeNow_L30 v_squares v_right v_up z1 n) v_squares v_right v_up q_2.2 z1 z3 (jf_Mo_least z2 q_3)))))
def jf_Mo_codeNow (v_squares : Int32) (v_right : Nat → Int32) (v_up : Nat → Int32) (v_name : Nat → Int32) : Option (Int32 × (Nat → Int32)) :=
  Option.bind (jf_Mo_codeNow_L4 v_squares jF 1 0) (fun q_1 => Option.bind (jf_Mo_codeNow_L30 v_squares v_right v_up q_1 jF 2147483647 0 v_name) (fun q_4 => some (q_4.1, q_4.2)))
def jf_Mo_shear (v_thrown : Int32) (v_squares : Int32) (v_right : Nat → Int32) (v_up : Nat → Int32) (v_name : Nat → Int32) (v_part : Nat → Int32) : Option (Int32 × Int32 × (Nat → Int32) × (Nat → Int32) × (Nat → Int32)) :=
  Option.bind (jf_Mo_shears v_squares v_right v_up v_part) (fun q_1 => Option.bind (jf_Mo_codeNow v_squares v_right q_1.1 v_name) (fun q_2 => some (q_2.1, 0, q_1.1, q_2.2, q_1.2)))
def jf_Mo_turn (v_thrown : Int32) (v_squares : Int32) (v_right : Nat → Int32) (v_up : Nat → Int32) (v_name : Nat → Int32) (v_part : Nat → Int32) : Option (Int32 × Int32 × (Nat → Int32) × (Nat → Int32) × (Nat → Int32) × (Nat → Int32)) :=
  Option.bind (jf_Mo_turns v_squares v_right v_up v_part) (fun q_1 => Option.bind (jf_Mo_codeNow v_squares q_1.1 q_1.2.1 v_name) (fun q_2 => some (q_2.1, 0, q_1.1, q_1.2.1, q_2.2, q_1.2.2)))
def jf_Mo_code (v_thrown : Int32) (v_squares : Int32) (v_right : Nat → Int32) (v_up : Nat → Int32) (v_name : Nat → Int32) : Option (Int32 × Int32 × (Nat → Int32)) :=
  Option.bind (jf_Mo_codeNow v_squares v_right v_up v_name) (fun q_1 => some (q_1.1, 0, q_1.2))
def jf_Mo_lays_L9 : Nat → Int32 → Int32 → (Nat → Int32) → (Nat → Int32) → Option ((Nat → Int32) × (Nat → Int32))
  | 0, _, _, _, _ => none
  | n + 1, z2, z3, v_right, v_up =>
    if z3 < 0 then (some (v_right, v_up)) else (if jin z3 5 = true then (if jin z3 5 = true then (jlet (z2 / 25) (fun y2_1 => (jf_Mo_lays_L9 n) y2_1 (z3 + (-1)) (upd v_right z3.toNatClampNeg ((z2 / 5) - (z2 / 5) / 5 * 5)) (upd v_up z3.toNatClampNeg (z2 - z2 / 5 * 5)))) else none) else none)
def jf_Mo_lays (v_squares : Int32) (v_right : Nat → Int32) (v_up : Nat → Int32) (x1 : Int32) : Option ((Nat → Int32) × (Nat → Int32)) :=
  jlet (v_squares - 1) (fun y3_1 => Option.bind (jf_Mo_lays_L9 jF x1 y3_1 v_right v_up) (fun q_1 => some (q_1.1, q_1.2)))
def jf_Mo_withCode_L2 (n0 : Nat) (v_r0 : Nat → Int32) (z1 : Int32) (z2 : Int32) : Nat → Int32 → Option (Unit ⊕ Unit)
  | 0, _ => none
  | n + 1, z3 =>
    if z1 ≤ z3 then (some (.inr ())) else (if jin z3 n0 = true then (if v_r0 z3.toNatClampNeg = z2 then (some (.inl ())) else ((jf_Mo_withCode_L2 n0 v_r0 z1 z2 n) (z3 + 1))) else none)
def jf_Mo_withCode (n0 : Nat) (v_r0 : Nat → Int32) (x1 : Int32) (x2 : Int32) : Option (Int32 × (Nat → Int32)) :=
  Option.bind (jf_Mo_withCode_L2 n0 v_r0 x1 x2 jF 0) (fun q_1 => jsum (fun o_1 => some (x1, v_r0)) (fun o_2 => if jin x1 n0 = true then (some (x1 + 1, upd v_r0 x1.toNatClampNeg x2)) else none) q_1)
def jf_Mo_kin_L7 (v_squares : Int32) (v_right : Nat → Int32) (v_up : Nat → Int32) : Nat → Int32 → (Nat → Int32) → (Nat → Int32) → Option ((Nat → Int32) × (Nat → Int32))
  | 0, _, _, _ => none
  | n + 1, z1, v_keptRight, v_keptUp =>
    if v_squares ≤ z1 then (some (v_keptRight, v_keptUp)) else (if jin z1 5 = true then (if jin z1 5 = true then (if jin z1 5 = true then (if jin z1 5 = true then ((jf_Mo_kin_L7 v_squares v_right v_up n) (z1 + 1) (upd v_keptRight z1.toNatClampNeg (v_right z1.toNatClampNeg)) (upd v_keptUp z1.toNatClampNeg (v_up z1.toNatClampNeg))) else none) else none) else none) else none)
def jf_Mo_kin_L60 (v_squares : Int32) : Nat → Int32 → Int32 → (Nat → Int32) → (Nat → Int32) → (Nat → Int32) → (Nat → Int32) → (Nat → Int32) → Option (Int32 × (Nat → Int32) × (Nat → Int32) × (Nat → Int32) × (Nat → Int32) × (Nat → Int32))
  | 0, _, _, _, _, _, _, _ => none
  | n + 1, z1, z2, v_right, v_up, v_name, v_part, v_codes =>
    if z1 ≤ z2 then (some (z1, v_right, v_up, v_name, v_part, v_codes)) else (if jin z2 200 = true then (Option.bind (jf_Mo_lays v_squares v_right v_up (v_codes z2.toNatClampNeg)) (fun q_4 => Option.bind (jf_Mo_shears v_squares q_4.1 q_4.2 v_part) (fun q_5 => Option.bind (jf_Mo_codeNow v_squares q_4.1 q_5.1 v_name) (fun q_6 => Option.bind (jf_Mo_withCode 200 v_codes z1 q_6.1) (fun q_7 => if jin z2 200 = true then (Option.bind (jf_Mo_lays v_squares q_4.1 q_5.1 (q_7.2 z2.toNatClampNeg)) (fun q_8 => Option.bind (jf_Mo_turns v_squares q_8.1 q_8.2 q_5.2) (fun q_9 => Option.bind (jf_Mo_codeNow v_squares q_9.1 q_9.2.1 q_6.2) (fun q_10 => Option.bind (jf_Mo_withCode 200 q_7.2 q_7.1 q_10.1) (fun q_11 => (jf_Mo_kin_L60 v_squares n) q_11.1 (z2 + 1) q_9.1 q_9.2.1 q_10.2 q_9.2.2 q_11.2))))) else none))))) else none)
def jf_Mo_kin_L127 (v_squares : Int32) (v_keptRight : Nat → Int32) (v_keptUp : Nat → Int32) (z1 : Int32) : Nat → Int32 → (Nat → Int32) → (Nat → Int32) → Option ((Nat → Int32) × (Nat → Int32))
  | 0, _, _, _ => none
  | n + 1, z2, v_right, v_up =>
    if v_squares ≤ z2 then (some (v_right, v_up)) else (if jin z2 5 = true then (if jin z2 5 = true then (if jin z2 5 = true then (if jin z2 5 = true then ((jf_Mo_kin_L127 v_squares v_keptRight v_keptUp z1 n) (z2 + 1) (upd v_right z2.toNatClampNeg (v_keptRight z2.toNatClampNeg)) (upd v_up z2.toNatClampNeg (v_keptUp z2.toNatClampNeg))) else none) else none) else none) else none)
def jf_Mo_kin (v_thrown : Int32) (v_squares : Int32) (v_right : Nat → Int32) (v_up : Nat → Int32) (v_keptRight : Nat → Int32) (v_keptUp : Nat → Int32) (v_name : Nat → Int32) (v_part : Nat → Int32) (v_codes : Nat → Int32) : Option (Int32 × Int32 × (Nat → Int32) × (Nat → Int32) × (Nat → Int32) × (Nat → Int32) × (Nat → Int32) × (Nat → Int32) × (Nat → Int32)) :=
  Option.bind (jf_Mo_kin_L7 v_squares v_right v_up jF 0 v_keptRight v_keptUp) (fun q_1 => Option.bind (jf_Mo_codeNow v_squares v_right v_up v_name) (fun q_2 => Option.bind (jf_Mo_withCode 200 v_codes 0 q_2.1) (fun q_3 => Option.bind (jf_Mo_kin_L60 v_squares jF q_3.1 0 v_right v_up q_2.2 v_part q_3.2) (fun q_12 => Option.bind (jf_Mo_kin_L127 v_squares q_1.1 q_1.2 q_12.1 jF 0 q_12.2.1 q_12.2.2.1) (fun q_13 => some (q_12.1, 0, q_13.1, q_13.2, q_1.1, q_1.2, q_12.2.2.2.1, q_12.2.2.2.2.1, q_12.2.2.2.2.2))))))
def jf_Mo_square_b28 (v_thrown : Int32) (v_squares : Int32) (v_right : Nat → Int32) (v_up : Nat → Int32) (v_part : Nat → Int32) (z1 : Int32) (z2 : Int32) (s1 : Int32) : Option (Int32 × Int32 × (Nat → Int32)) :=
  if s1 ≤ 0 then (if z2 = 0 then (if jin z1 5 = true then (some (v_right z1.toNatClampNeg, s1, v_part)) else none) else (if z2 = 1 then (if jin z1 5 = true then (some (v_up z1.toNatClampNeg, s1, v_part)) else none) else (if z2 = 2 then (Option.bind (jf_Mo_leftOf v_squares v_right z1) (fun q_1 => some (q_1, s1, v_part))) else (if z2 = 3 then (Option.bind (jf_Mo_downOf v_squares v_up z1) (fun q_2 => some (q_2, s1, v_part))) else (if z2 = 4 then (Option.bind (jf_Mo_angle v_squares v_right v_up z1) (fun q_3 => some (q_3, s1, v_part))) else (if z2 = 5 then (Option.bind (jf_Mo_findsPieces v_squares v_right v_up v_part) (fun q_4 => Option.bind (jf_Mo_sizeOf v_squares q_4 z1) (fun q_5 => some (q_5, s1, q_4)))) else (Option.bind (jf_Mo_rowSize v_right z1) (fun q_6 => some (q_6, s1, v_part))))))))) else (some (0, s1, v_part))
def jf_Mo_square (v_thrown : Int32) (v_squares : Int32) (v_right : Nat → Int32) (v_up : Nat → Int32) (v_part : Nat → Int32) (x1 : Int32) (x2 : Int32) : Option (Int32 × Int32 × (Nat → Int32)) :=
  if (jf_Mo_isSquare v_squares x1) = 0 then (jf_Mo_square_b28 v_thrown v_squares v_right v_up v_part x1 x2 1) else (if (jf_Mo_in x2 0 6) = 0 then (jf_Mo_square_b28 v_thrown v_squares v_right v_up v_part x1 x2 2) else (jf_Mo_square_b28 v_thrown v_squares v_right v_up v_part x1 x2 0))
def jf_Mo_count_b15 (v_thrown : Int32) (v_squares : Int32) (v_right : Nat → Int32) (v_up : Nat → Int32) (v_part : Nat → Int32) (z1 : Int32) (s1 : Int32) : Option (Int32 × Int32 × (Nat → Int32)) :=
  if s1 ≤ 0 then (if z1 = 0 then (some (v_squares, s1, v_part)) else (if z1 = 1 then (Option.bind (jf_Mo_cones v_squares v_right v_up v_part) (fun q_1 => some (q_1.1, s1, q_1.2))) else (if z1 = 2 then (Option.bind (jf_Mo_pieces v_squares v_right v_up v_part) (fun q_2 => some (q_2.1, s1, q_2.2))) else (if z1 = 3 then (Option.bind (jf_Mo_findsRows v_squares v_right v_part) (fun q_3 => Option.bind (jf_Mo_manyParts v_squares q_3) (fun q_4 => some (q_4, s1, q_3)))) else (Option.bind (jf_Mo_findsCylinders v_squares v_right v_up v_part) (fun q_5 => Option.bind (jf_Mo_manyParts v_squares q_5) (fun q_6 => some (q_6, s1, q_5)))))))) else (some (0, s1, v_part))
def jf_Mo_count (v_thrown : Int32) (v_squares : Int32) (v_right : Nat → Int32) (v_up : Nat → Int32) (v_part : Nat → Int32) (x1 : Int32) : Option (Int32 × Int32 × (Nat → Int32)) :=
  if (jf_Mo_in x1 0 4) = 0 then (jf_Mo_count_b15 v_thrown v_squares v_right v_up v_part x1 1) else (jf_Mo_count_b15 v_thrown v_squares v_right v_up v_part x1 0)
def jf_Mo_genus_b14 (v_thrown : Int32) (v_squares : Int32) (v_right : Nat → Int32) (v_up : Nat → Int32) (v_part : Nat → Int32) (s1 : Int32) : Option (Int32 × Int32 × (Nat → Int32)) :=
  if s1 ≤ 0 then (Option.bind (jf_Mo_cones v_squares v_right v_up v_part) (fun q_2 => some (1 + ((v_squares - q_2.1) / 2), s1, q_2.2))) else (some (0, s1, v_part))
def jf_Mo_genus (v_thrown : Int32) (v_squares : Int32) (v_right : Nat → Int32) (v_up : Nat → Int32) (v_part : Nat → Int32) : Option (Int32 × Int32 × (Nat → Int32)) :=
  Option.bind (jf_Mo_pieces v_squares v_right v_up v_part) (fun q_1 => if q_1.1 ≤ 1 then (jf_Mo_genus_b14 v_thrown v_squares v_right v_up q_1.2 0) else (jf_Mo_genus_b14 v_thrown v_squares v_right v_up q_1.2 1))
def jf_Mo_interval_b29 (v_thrown : Int32) (v_intervals : Int32) (v_above : Nat → Int32) (v_below : Nat → Int32) (v_length : Nat → Int32) (z1 : Int32) (s1 : Int32) : Option (Int32 × Int32 × Int32 × (Nat → Int32) × (Nat → Int32) × (Nat → Int32)) :=
  if s1 ≤ 0 then (if jin v_intervals 6 = true then (if jin v_intervals 6 = true then (if jin v_intervals 6 = true then (some ((v_intervals + 1) - 1, s1, v_intervals + 1, upd v_above v_intervals.toNatClampNeg v_intervals, upd v_below v_intervals.toNatClampNeg v_intervals, upd v_length v_intervals.toNatClampNeg z1)) else none) else none) else none) else (some (0, s1, v_intervals, v_above, v_below, v_length))
def jf_Mo_interval (v_thrown : Int32) (v_intervals : Int32) (v_above : Nat → Int32) (v_below : Nat → Int32) (v_length : Nat → Int32) (x1 : Int32) : Option (Int32 × Int32 × Int32 × (Nat → Int32) × (Nat → Int32) × (Nat → Int32)) :=
  if (jf_Mo_in x1 1 50) = 0 then (jf_Mo_interval_b29 v_thrown v_intervals v_above v_below v_length x1 1) else (if v_intervals = 6 then (jf_Mo_interval_b29 v_thrown v_intervals v_above v_below v_length x1 2) else (jf_Mo_interval_b29 v_thrown v_intervals v_above v_below v_length x1 0))
def jf_Mo_isPlace (v_intervals : Int32) (x1 : Int32) : Int32 :=
  (jf_Mo_in x1 0 (v_intervals - 1)) &&& 1
def jf_Mo_swap_b22 (v_thrown : Int32) (v_below : Nat → Int32) (z1 : Int32) (z2 : Int32) (s1 : Int32) : Option (Int32 × Int32 × (Nat → Int32)) :=
  if s1 ≤ 0 then (if jin z1 6 = true then (jlet (v_below z1.toNatClampNeg) (fun y3_1 => if jin z2 6 = true then (if jin z1 6 = true then (if jin z2 6 = true then (if jin z1 6 = true then (some ((upd (upd v_below z1.toNatClampNeg (v_below z2.toNatClampNeg)) z2.toNatClampNeg y3_1) z1.toNatClampNeg, s1, upd (upd v_below z1.toNatClampNeg (v_below z2.toNatClampNeg)) z2.toNatClampNeg y3_1)) else none) else none) else none) else none)) else none) else (some (0, s1, v_below))
def jf_Mo_swap_b21 (v_thrown : Int32) (v_below : Nat → Int32) (z1 : Int32) (z2 : Int32) : Option (Int32 × Int32 × (Nat → Int32)) :=
  jf_Mo_swap_b22 v_thrown v_below z1 z2 1
def jf_Mo_swap (v_thrown : Int32) (v_intervals : Int32) (v_below : Nat → Int32) (x1 : Int32) (x2 : Int32) : Option (Int32 × Int32 × (Nat → Int32)) :=
  if (jf_Mo_isPlace v_intervals x1) = 0 then (jf_Mo_swap_b21 v_thrown v_below x1 x2) else (if (jf_Mo_isPlace v_intervals x2) = 0 then (jf_Mo_swap_b21 v_thrown v_below x1 x2) else (jf_Mo_swap_b22 v_thrown v_below x1 x2 0))
def jf_Mo_sum_L4 (v_intervals : Int32) (v_length : Nat → Int32) : Nat → Int32 → Int32 → Option Int32
  | 0, _, _ => none
  | n + 1, z1, z2 =>
    if v_intervals ≤ z2 then (some z1) else (if jin z2 6 = true then (jlet (z1 + (v_length z2.toNatClampNeg)) (fun y1_1 => (jf_Mo_sum_L4 v_intervals v_length n) y1_1 (z2 + 1))) else none)
def jf_Mo_sum (v_intervals : Int32) (v_length : Nat → Int32) : Option Int32 :=
  Option.bind (jf_Mo_sum_L4 v_intervals v_length jF 0 0) (fun q_1 => some q_1)
def jf_Mo_laysBehind_below_L17 (z2 : Int32) (z3 : Int32) : Nat → Int32 → (Nat → Int32) → Option (Int32 × (Nat → Int32))
  | 0, _, _ => none
  | n + 1, z4, v_below =>
    if jin (z4 - 1) 6 = true then (if v_below (z4 - 1).toNatClampNeg = z2 then (some (z4, v_below)) else (if jin (z4 - 1) 6 = true then (if jin z4 6 = true then ((jf_Mo_laysBehind_below_L17 z2 z3 n) (z4 + (-1)) (upd v_below z4.toNatClampNeg (v_below (z4 - 1).toNatClampNeg))) else none) else none)) else none
def jf_Mo_laysBehind_below (v_intervals : Int32) (v_below : Nat → Int32) (x2 : Int32) : Option (Nat → Int32) :=
  if jin (v_intervals - 1) 6 = true then (jlet (v_below (v_intervals - 1).toNatClampNeg) (fun y3_1 => jlet (v_intervals - 1) (fun y4_1 => Option.bind (jf_Mo_laysBehind_below_L17 x2 y3_1 jF y4_1 v_below) (fun q_1 => if jin q_1.1 6 = true then (some (upd q_1.2 q_1.1.toNatClampNeg y3_1)) else none)))) else none
def jf_Mo_laysBehind_above_L17 (z2 : Int32) (z3 : Int32) : Nat → Int32 → (Nat → Int32) → Option (Int32 × (Nat → Int32))
  | 0, _, _ => none
  | n + 1, z4, v_above =>
    if jin (z4 - 1) 6 = true then (if v_above (z4 - 1).toNatClampNeg = z2 then (some (z4, v_above)) else (if jin (z4 - 1) 6 = true then (if jin z4 6 = true then ((jf_Mo_laysBehind_above_L17 z2 z3 n) (z4 + (-1)) (upd v_above z4.toNatClampNeg (v_above (z4 - 1).toNatClampNeg))) else none) else none)) else none
def jf_Mo_laysBehind_above (v_intervals : Int32) (v_above : Nat → Int32) (x2 : Int32) : Option (Nat → Int32) :=
  if jin (v_intervals - 1) 6 = true then (jlet (v_above (v_intervals - 1).toNatClampNeg) (fun y3_1 => jlet (v_intervals - 1) (fun y4_1 => Option.bind (jf_Mo_laysBehind_above_L17 x2 y3_1 jF y4_1 v_above) (fun q_1 => if jin q_1.1 6 = true then (some (upd q_1.2 q_1.1.toNatClampNeg y3_1)) else none)))) else none
def jf_Mo_induce_b150 (v_thrown : Int32) (v_intervals : Int32) (v_above : Nat → Int32) (v_below : Nat → Int32) (v_length : Nat → Int32) : Option (Int32 × Int32 × (Nat → Int32) × (Nat → Int32) × (Nat → Int32)) :=
  Option.bind (jf_Mo_sum v_intervals v_length) (fun q_2 => some (q_2, v_thrown, v_above, v_below, v_length))
def jf_Mo_induce_b72 (v_thrown : Int32) (v_intervals : Int32) (v_above : Nat → Int32) (v_below : Nat → Int32) (v_length : Nat → Int32) (z1 : Int32) (z2 : Int32) (s1 : Int32) : Option (Int32 × Int32 × (Nat → Int32) × (Nat → Int32) × (Nat → Int32)) :=
  if s1 ≤ 0 then (if jin z1 6 = true then (if jin z2 6 = true then (if v_length z1.toNatClampNeg ≤ v_length z2.toNatClampNeg then (if jin z2 6 = true then (if jin z1 6 = true then (if jin z2 6 = true then (Option.bind (jf_Mo_laysBehind_above v_intervals v_above z2) (fun q_1 => jf_Mo_induce_b150 s1 v_intervals q_1 v_below (upd v_length z2.toNatClampNeg ((v_length z2.toNatClampNeg) - (v_length z1.toNatClampNeg))))) else none) else none) else none) else (if jin z1 6 = true then (if jin z2 6 = true then (if jin z1 6 = true then (Option.bind (jf_Mo_laysBehind_below v_intervals v_below z1) (fun q_3 => jf_Mo_induce_b150 s1 v_intervals v_above q_3 (upd v_length z1.toNatClampNeg ((v_length z1.toNatClampNeg) - (v_length z2.toNatClampNeg))))) else none) else none) else none)) else none) else none) else (some (0, s1, v_above, v_below, v_length))
def jf_Mo_induce_b67 (v_thrown : Int32) (v_intervals : Int32) (v_above : Nat → Int32) (v_below : Nat → Int32) (v_length : Nat → Int32) (z1 : Int32) (z2 : Int32) : Option (Int32 × Int32 × (Nat → Int32) × (Nat → Int32) × (Nat → Int32)) :=
  jf_Mo_induce_b72 v_thrown v_intervals v_above v_below v_length z1 z2 1
def jf_Mo_induce_b45 (v_thrown : Int32) (v_intervals : Int32) (v_above : Nat → Int32) (v_below : Nat → Int32) (v_length : Nat → Int32) (z1 : Int32) (s0 : Int32) : Option (Int32 × Int32 × (Nat → Int32) × (Nat → Int32) × (Nat → Int32)) :=
  if z1 = s0 then (jf_Mo_induce_b67 v_thrown v_intervals v_above v_below v_length z1 s0) else (if jin z1 6 = true then (if jin s0 6 = true then (if v_length z1.toNatClampNeg = v_length s0.toNatClampNeg then (jf_Mo_induce_b67 v_thrown v_intervals v_above v_below v_length z1 s0) else (jf_Mo_induce_b72 v_thrown v_intervals v_above v_below v_length z1 s0 0)) else none) else none)
def jf_Mo_induce_b22 (v_thrown : Int32) (v_intervals : Int32) (v_above : Nat → Int32) (v_below : Nat → Int32) (v_length : Nat → Int32) (s0 : Int32) : Option (Int32 × Int32 × (Nat → Int32) × (Nat → Int32) × (Nat → Int32)) :=
  if v_intervals = 0 then (jf_Mo_induce_b45 v_thrown v_intervals v_above v_below v_length s0 0) else (if jin (v_intervals - 1) 6 = true then (jf_Mo_induce_b45 v_thrown v_intervals v_above v_below v_length s0 (v_below (v_intervals - 1).toNatClampNeg)) else none)
def jf_Mo_induce (v_thrown : Int32) (v_intervals : Int32) (v_above : Nat → Int32) (v_below : Nat → Int32) (v_length : Nat → Int32) : Option (Int32 × Int32 × (Nat → Int32) × (Nat → Int32) × (Nat → Int32)) :=
  if v_intervals = 0 then (jf_Mo_induce_b22 v_thrown v_intervals v_above v_below v_length 0) else (if jin (v_intervals - 1) 6 = true then (jf_Mo_induce_b22 v_thrown v_intervals v_above v_below v_length (v_above (v_intervals - 1).toNatClampNeg)) else none)
def jf_Mo_told_b27 (v_thrown : Int32) (v_above : Nat → Int32) (v_below : Nat → Int32) (v_length : Nat → Int32) (z1 : Int32) (z2 : Int32) (s1 : Int32) : Option (Int32 × Int32) :=
  if s1 ≤ 0 then (if z2 = 0 then (if jin z1 6 = true then (some (v_above z1.toNatClampNeg, s1)) else none) else (if z2 = 1 then (if jin z1 6 = true then (some (v_below z1.toNatClampNeg, s1)) else none) else (if jin z1 6 = true then (if jin (v_above z1.toNatClampNeg) 6 = true then (some (v_length (v_above z1.toNatClampNeg).toNatClampNeg, s1)) else none) else none))) else (some (0, s1))
def jf_Mo_told (v_thrown : Int32) (v_intervals : Int32) (v_above : Nat → Int32) (v_below : Nat → Int32) (v_length : Nat → Int32) (x1 : Int32) (x2 : Int32) : Option (Int32 × Int32) :=
  if (jf_Mo_isPlace v_intervals x1) = 0 then (jf_Mo_told_b27 v_thrown v_above v_below v_length x1 x2 1) else (if (jf_Mo_in x2 0 2) = 0 then (jf_Mo_told_b27 v_thrown v_above v_below v_length x1 x2 2) else (jf_Mo_told_b27 v_thrown v_above v_below v_length x1 x2 0))
def jf_Mo_asksPoint_b20 (v_thrown : Int32) (s1 : Int32) : Option (Int32 × Int32) :=
  if s1 = 0 then (some (1, s1)) else (some (0, s1))
def jf_Mo_asksPoint (v_thrown : Int32) (v_intervals : Int32) (v_length : Nat → Int32) (x1 : Int32) : Option (Int32 × Int32) :=
  Option.bind (jf_Mo_sum v_intervals v_length) (fun q_1 => if (jf_Mo_in x1 0 (q_1 - 1)) = 0 then (jf_Mo_asksPoint_b20 v_thrown 1) else (jf_Mo_asksPoint_b20 v_thrown 0))
def jf_Mo_goes_above_below_L6 (v_above : Nat → Int32) (v_length : Nat → Int32) (z1 : Int32) : Nat → Int32 → Int32 → Option (Int32 × Int32)
  | 0, _, _ => none
  | n + 1, z4, z5 =>
    if jin z4 6 = true then (if jin (v_above z4.toNatClampNeg) 6 = true then (if z1 < z5 + (v_length (v_above z4.toNatClampNeg).toNatClampNeg) then (some (z4, z5)) else (if jin z4 6 = true then (if jin (v_above z4.toNatClampNeg) 6 = true then (jlet (z5 + (v_length (v_above z4.toNatClampNeg).toNatClampNeg)) (fun y5_1 => (jf_Mo_goes_above_below_L6 v_above v_length z1 n) (z4 + 1) y5_1)) else none) else none)) else none) else none
def jf_Mo_goes_above_below_L48 (v_above : Nat → Int32) (v_below : Nat → Int32) (v_length : Nat → Int32) (z1 : Int32) (z4 : Int32) (z5 : Int32) : Nat → Int32 → Int32 → Option Int32
  | 0, _, _ => none
  | n + 1, z6, z7 =>
    if jin z7 6 = true then (if jin z4 6 = true then (if v_below z7.toNatClampNeg = v_above z4.toNatClampNeg then (some z6) else (if jin z7 6 = true then (if jin (v_below z7.toNatClampNeg) 6 = true then (jlet (z6 + (v_length (v_below z7.toNatClampNeg).toNatClampNeg)) (fun y6_1 => (jf_Mo_goes_above_below_L48 v_above v_below v_length z1 z4 z5 n) y6_1 (z7 + 1))) else none) else none)) else none) else none
def jf_Mo_goes_above_below (v_above : Nat → Int32) (v_below : Nat → Int32) (v_length : Nat → Int32) (x1 : Int32) : Option Int32 :=
  Option.bind (jf_Mo_goes_above_below_L6 v_above v_length x1 jF 0 0) (fun q_1 => Option.bind (jf_Mo_goes_above_below_L48 v_above v_below v_length x1 q_1.1 q_1.2 jF 0 0) (fun q_2 => some ((q_2 + x1) - q_1.2)))
def jf_Mo_image (v_thrown : Int32) (v_intervals : Int32) (v_above : Nat → Int32) (v_below : Nat → Int32) (v_length : Nat → Int32) (x1 : Int32) : Option (Int32 × Int32) :=
  Option.bind (jf_Mo_asksPoint v_thrown v_intervals v_length x1) (fun q_1 => if q_1.1 = 0 then (some (0, q_1.2)) else (Option.bind (jf_Mo_goes_above_below v_above v_below v_length x1) (fun q_2 => some (q_2, q_1.2))))
def jf_Mo_goes_below_above_L6 (v_below : Nat → Int32) (v_length : Nat → Int32) (z1 : Int32) : Nat → Int32 → Int32 → Option (Int32 × Int32)
  | 0, _, _ => none
  | n + 1, z4, z5 =>
    if jin z4 6 = true then (if jin (v_below z4.toNatClampNeg) 6 = true then (if z1 < z5 + (v_length (v_below z4.toNatClampNeg).toNatClampNeg) then (some (z4, z5)) else (if jin z4 6 = true then (if jin (v_below z4.toNatClampNeg) 6 = true then (jlet (z5 + (v_length (v_below z4.toNatClampNeg).toNatClampNeg)) (fun y5_1 => (jf_Mo_goes_below_above_L6 v_below v_length z1 n) (z4 + 1) y5_1)) else none) else none)) else none) else none
def jf_Mo_goes_below_above_L48 (v_above : Nat → Int32) (v_below : Nat → Int32) (v_length : Nat → Int32) (z1 : Int32) (z4 : Int32) (z5 : Int32) : Nat → Int32 → Int32 → Option Int32
  | 0, _, _ => none
  | n + 1, z6, z7 =>
    if jin z7 6 = true then (if jin z4 6 = true then (if v_above z7.toNatClampNeg = v_below z4.toNatClampNeg then (some z6) else (if jin z7 6 = true then (if jin (v_above z7.toNatClampNeg) 6 = true then (jlet (z6 + (v_length (v_above z7.toNatClampNeg).toNatClampNeg)) (fun y6_1 => (jf_Mo_goes_below_above_L48 v_above v_below v_length z1 z4 z5 n) y6_1 (z7 + 1))) else none) else none)) else none) else none
def jf_Mo_goes_below_above (v_above : Nat → Int32) (v_below : Nat → Int32) (v_length : Nat → Int32) (x1 : Int32) : Option Int32 :=
  Option.bind (jf_Mo_goes_below_above_L6 v_below v_length x1 jF 0 0) (fun q_1 => Option.bind (jf_Mo_goes_below_above_L48 v_above v_below v_length x1 q_1.1 q_1.2 jF 0 0) (fun q_2 => some ((q_2 + x1) - q_1.2)))
def jf_Mo_back (v_thrown : Int32) (v_intervals : Int32) (v_above : Nat → Int32) (v_below : Nat → Int32) (v_length : Nat → Int32) (x1 : Int32) : Option (Int32 × Int32) :=
  Option.bind (jf_Mo_asksPoint v_thrown v_intervals v_length x1) (fun q_1 => if q_1.1 = 0 then (some (0, q_1.2)) else (Option.bind (jf_Mo_goes_below_above v_above v_below v_length x1) (fun q_2 => some (q_2, q_1.2))))
def jf_Mo_cycle_L26 (v_above : Nat → Int32) (v_below : Nat → Int32) (v_length : Nat → Int32) (z1 : Int32) : Nat → Int32 → Int32 → Option Int32
  | 0, _, _ => none
  | n + 1, z2, z3 =>
    if z3 = z1 then (some z2) else (Option.bind (jf_Mo_goes_above_below v_above v_below v_length z3) (fun q_3 => (jf_Mo_cycle_L26 v_above v_below v_length z1 n) (z2 + 1) q_3))
def jf_Mo_cycle (v_thrown : Int32) (v_intervals : Int32) (v_above : Nat → Int32) (v_below : Nat → Int32) (v_length : Nat → Int32) (x1 : Int32) : Option (Int32 × Int32) :=
  Option.bind (jf_Mo_asksPoint v_thrown v_intervals v_length x1) (fun q_1 => if q_1.1 = 0 then (some (0, q_1.2)) else (Option.bind (jf_Mo_goes_above_below v_above v_below v_length x1) (fun q_2 => Option.bind (jf_Mo_cycle_L26 v_above v_below v_length x1 jF 1 q_2) (fun q_4 => some (q_4, q_1.2)))))
def jf_Mo_cycles_L14 (z1 : Int32) (z2 : Int32) : Nat → Int32 → (Nat → Int32) → Option (Nat → Int32)
  | 0, _, _ => none
  | n + 1, z3, v_isMet =>
    if z1 ≤ z3 then (some v_isMet) else (if jin z3 300 = true then ((jf_Mo_cycles_L14 z1 z2 n) (z3 + 1) (upd v_isMet z3.toNatClampNeg (0 &&& 1))) else none)
def jf_Mo_cycles_L59 (v_above : Nat → Int32) (v_below : Nat → Int32) (v_length : Nat → Int32) (z1 : Int32) (z2 : Int32) (z3 : Int32) : Nat → Int32 → (Nat → Int32) → Option (Nat → Int32)
  | 0, _, _ => none
  | n + 1, z4, v_isMet =>
    if jin z4 300 = true then (if v_isMet z4.toNatClampNeg = 0 then (if jin z4 300 = true then (Option.bind (jf_Mo_goes_above_below v_above v_below v_length z4) (fun q_3 => (jf_Mo_cycles_L59 v_above v_below v_length z1 z2 z3 n) q_3 (upd v_isMet z4.toNatClampNeg (1 &&& 1)))) else none) else (some v_isMet)) else none
def jf_Mo_cycles_b54 (self : Int32 → Int32 → (Nat → Int32) → Option (Int32 × (Nat → Int32))) (v_above : Nat → Int32) (v_below : Nat → Int32) (v_length : Nat → Int32) (v_isMet : Nat → Int32) (z1 : Int32) (z3 : Int32) (s0 : Int32) (s1 : Int32) : Option (Int32 × (Nat → Int32)) :=
  jlet (s0 + s1) (fun y2_1 => Option.bind (jf_Mo_cycles_L59 v_above v_below v_length z1 y2_1 z3 jF z3 v_isMet) (fun q_4 => self y2_1 (z3 + 1) q_4))
def jf_Mo_cycles_L34 (v_above : Nat → Int32) (v_below : Nat → Int32) (v_length : Nat → Int32) (z1 : Int32) : Nat → Int32 → Int32 → (Nat → Int32) → Option (Int32 × (Nat → Int32))
  | 0, _, _, _ => none
  | n + 1, z2, z3, v_isMet =>
    if z1 ≤ z3 then (some (z2, v_isMet)) else (if jin z3 300 = true then (if v_isMet z3.toNatClampNeg = 0 then (jf_Mo_cycles_b54 (jf_Mo_cycles_L34 v_above v_below v_length z1 n) v_above v_below v_length v_isMet z1 z3 z2 1) else (jf_Mo_cycles_b54 (jf_Mo_cycles_L34 v_above v_below v_length z1 n) v_above v_below v_length v_isMet z1 z3 z2 0)) else none)
def jf_Mo_cycles (v_thrown : Int32) (v_intervals : Int32) (v_above : Nat → Int32) (v_below : Nat → Int32) (v_length : Nat → Int32) (v_isMet : Nat → Int32) : Option (Int32 × Int32 × (Nat → Int32)) :=
  Option.bind (jf_Mo_sum v_intervals v_length) (fun q_1 => Option.bind (jf_Mo_cycles_L14 q_1 0 jF 0 v_isMet) (fun q_2 => Option.bind (jf_Mo_cycles_L34 v_above v_below v_length q_1 jF 0 0 q_2) (fun q_5 => some (q_5.1, 0, q_5.2))))
def jf_Mo_apart_L11 (v_intervals : Int32) (v_above : Nat → Int32) (v_below : Nat → Int32) : Nat → Int32 → Int32 → Int32 → Option (Int32 ⊕ Unit)
  | 0, _, _, _ => none
  | n + 1, z1, z2, z3 =>
    if v_intervals ≤ z3 then (some (.inr ())) else (if jin z3 6 = true then (jlet (z1 ||| (1 <<< ((v_above z3.toNatClampNeg) &&& 31))) (fun y1_1 => if jin z3 6 = true then (jlet (z2 ||| (1 <<< ((v_below z3.toNatClampNeg) &&& 31))) (fun y2_1 => if y1_1 = y2_1 then (some (.inl z3)) else ((jf_Mo_apart_L11 v_intervals v_above v_below n) y1_1 y2_1 (z3 + 1)))) else none)) else none)
def jf_Mo_apart (v_thrown : Int32) (v_intervals : Int32) (v_above : Nat → Int32) (v_below : Nat → Int32) : Option (Int32 × Int32) :=
  Option.bind (jf_Mo_apart_L11 v_intervals v_above v_below jF 0 0 0) (fun q_1 => jsum (fun o_1 => some (o_1 + 1, 0)) (fun o_2 => some (0, 0)) q_1)
