/-! how the class and the model hold the same -/
/-- a permutation of the numbers below n, and the one that undoes it -/
def jPm (n : Nat) (f h : Nat → Int32) : Prop := ∃ r s : Nat → Nat, ∀ k, k < n → r k < n ∧ s k < n ∧ r (s k) = k ∧ s (r k) = k ∧ f k = nI (r k) ∧ h k = nI (s k)
/-- the SURFACE -/
def jIs (squares : Int32) (right up left down : Nat → Int32) (msquares : Int32) (mright mup : Nat → Int32) : Prop := ∃ n : Nat, 1 ≤ n ∧ n ≤ 5 ∧ squares = nI n ∧ msquares = nI n ∧ jPm n right left ∧ jPm n up down ∧ ∀ k, k < n → mright k = right k ∧ mup k = up k
/-! rows for the law's own body -/
section JL
variable {p : Program} {l : Launch} {e : Env} {R : Room} {s : State} {m : MethodId} {args : Array Value} {below : List Frame} {meth : Method} {c : Code} {H : Heap} {locs : List Loc} {cells slots : Nat} {Q : State → Prop}
variable {pc : Nat} {ls : Array Slot} {rest st0 : List Value} {a : Array Value} {A : Nat → Prop} {H0 : Heap} {cc : ByteArray}
end JL
