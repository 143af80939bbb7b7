/-! how the class and the model hold the same -/
/-- the ROOM: a bit a CELL; a boolean a CELL -/
def jIr (blocks : Int64) (isBlock : Nat → Int32) : Prop := ∀ k, k < 64 → isBlock k = if blocks.toBitVec.getLsbD k then 1 else 0
/-- the lamps -/
def jIl (lamps : Int32) (cellOf : Nat → Int32) (mlamps : Int32) (lampX lampY : Nat → Int32) : Prop := ∃ n : Nat, n ≤ 6 ∧ lamps = nI n ∧ mlamps = nI n ∧ ∀ k, k < n → ∃ x y : Nat, x < 8 ∧ y < 8 ∧ cellOf k = nI (x + 8 * y) ∧ lampX k = nI x ∧ lampY k = nI y
/-- a permutation of the numbers below n, and the one that undoes it -/
def jPm (n : Nat) (f h : Nat → Int32) : Prop := ∃ r s : Nat → Nat, ∀ k, k < n → r k < n ∧ s k < n ∧ r (s k) = k ∧ s (r k) = k ∧ f k = nI (r k) ∧ h k = nI (s k)
/-- the SURFACE -/
def jIs (squares : Int32) (right up left down : Nat → Int32) (msquares : Int32) (mright mup : Nat → Int32) : Prop := ∃ n : Nat, 1 ≤ n ∧ n ≤ 5 ∧ squares = nI n ∧ msquares = nI n ∧ jPm n right left ∧ jPm n up down ∧ ∀ k, k < n → mright k = right k ∧ mup k = up k
/-- the EXCHANGE -/
def jIe (intervals : Int32) (lengthOf above below : Nat → Int32) (mint : Int32) (mabove mbelow mlength : Nat → Int32) : Prop := ∃ n : Nat, n ≤ 6 ∧ intervals = nI n ∧ mint = nI n ∧ (∃ ia ib, jPm n above ia ∧ jPm n below ib) ∧ ∀ k, k < n → mabove k = above k ∧ mbelow k = below k ∧ mlength k = lengthOf k ∧ ∃ z : Nat, 1 ≤ z ∧ z ≤ 50 ∧ lengthOf k = nI z
def jInv (blocks : Int64) (lamps : Int32) (cellOf : Nat → Int32) (squares : Int32) (right up left down : Nat → Int32) (intervals : Int32) (lengthOf above below : Nat → Int32) (isBlock : Nat → Int32) (mlamps : Int32) (lampX lampY : Nat → Int32) (msquares : Int32) (mright mup : Nat → Int32) (mint : Int32) (mabove mbelow mlength : Nat → Int32) : Prop :=
  jIr blocks isBlock ∧ jIl lamps cellOf mlamps lampX lampY ∧ jIs squares right up left down msquares mright mup ∧ jIe intervals lengthOf above below mint mabove mbelow mlength
/-! rows for the law's own body -/
def jb (v : Int32) : Int32 := if v = 0 then 0 else 1
def jbl (v : Int32) : Int64 := if v = 0 then 0 else 1
section JL
variable {p : Program} {l : Launch} {e : Env} {R : Room} {s : State} {m : MethodId} {args : Array Value} {below : List Frame} {meth : Method} {c : Code} {H : Heap} {locs : List Loc} {cells slots : Nat} {Q : State → Prop}
variable {pc : Nat} {ls : Array Slot} {rest st0 : List Value} {a : Array Value} {A : Nat → Prop} {H0 : Heap} {cc : ByteArray}
theorem jrow_bool {v : Int32} (hx : p.tables.exec = Jvm.exec) (hb : c.code = cc) (d0 : decode cc pc = .ok (.ifCond .eq 7, 3)) (d3 : decode cc (pc + 3) = .ok (.iconst 1, 1)) (d4 : decode cc (pc + 4) = .ok (.goto 4, 3)) (d7 : decode cc (pc + 7) = .ok (.iconst 0, 1)) (k : W p l e R s m args below meth c H locs cells slots Q (F0 m (pc + 8) ls (.int (jb v) :: rest))) : W p l e R s m args below meth c H locs cells slots Q (F0 m pc ls (.int v :: rest)) := by
  refine lv_if_eq (tgt := pc + 7) hx hb d0 (by omega) (fun h => ?_) (fun h => ?_)
  · refine lv_iconst (v := 0) hx hb d7 (by decide) ?_
    rw [jb, if_pos h] at k
    exact k
  · refine lv_iconst (v := 1) hx hb d3 (by decide) ?_
    refine lv_goto (tgt := pc + 8) hx hb d4 (by omega) ?_
    rw [jb, if_neg h] at k
    exact k
theorem jrow_lbool {v : Int32} (hx : p.tables.exec = Jvm.exec) (hb : c.code = cc) (d0 : decode cc pc = .ok (.ifCond .eq 7, 3)) (d3 : decode cc (pc + 3) = .ok (.lconst 1, 1)) (d4 : decode cc (pc + 4) = .ok (.goto 4, 3)) (d7 : decode cc (pc + 7) = .ok (.lconst 0, 1)) (k : W p l e R s m args below meth c H locs cells slots Q (F0 m (pc + 8) ls (.long (jbl v) :: rest))) : W p l e R s m args below meth c H locs cells slots Q (F0 m pc ls (.int v :: rest)) := by
  refine lv_if_eq (tgt := pc + 7) hx hb d0 (by omega) (fun h => ?_) (fun h => ?_)
  · refine lv_lconst (v := 0) hx hb d7 (by decide) ?_
    rw [jbl, if_pos h] at k
    exact k
  · refine lv_lconst (v := 1) hx hb d3 (by decide) ?_
    refine lv_goto (tgt := pc + 8) hx hb d4 (by omega) ?_
    rw [jbl, if_neg h] at k
    exact k
end JL
theorem jvin {i L k : Nat} (h : i + 6 ≤ L) (hL : L ≤ 3072) (hk : k < 6) : vp_in (nI i + nI k) L := by
  rw [nI_add]
  exact vp_in_nI (by omega) (by omega)
theorem lg_cmp_self (x : Int64) : lg_cmp x x = 0 := by
  show (if x < x then (1 : Int32) else if x = x then 0 else -1) = 0
  have h : ¬ x < x := by rw [Int64.lt_iff_toInt_lt]; omega
  rw [if_neg h, if_pos rfl]
/-- a float that as a double is a number, and equal to itself -/
def jdn (f : UInt32) : Bool := decide (FP.f2d f &&& 0x7fffffffffffffff ≤ 0x7ff0000000000000) && decide (Op.cmpValue (FP.dcmp (FP.f2d f) (FP.f2d f)) .l = 0)
theorem jdn_n {f : UInt32} (h : jdn f = true) : vf_n64 (FP.f2d f) := by
  unfold jdn at h
  simp only [Bool.and_eq_true, decide_eq_true_eq] at h
  exact h.1
theorem jdn_c {f : UInt32} (h : jdn f = true) : Op.cmpValue (FP.dcmp (FP.f2d f) (FP.f2d f)) .l = 0 := by
  unfold jdn at h
  simp only [Bool.and_eq_true, decide_eq_true_eq] at h
  exact h.2

